def WB (ad : Nat → Nat) (ca : Nat → ClassId) (T_length : Int32) (T_bytes : Nat → Int32) (C_size : Int32) (C_given : Int32) (C_empty : Int32) (C_drafted : Int32) (C_draftedGiven : Int32) (C_block : Nat → Int32) (C_left : Nat → Int32) (C_right : Nat → Int32) (C_pivot : Nat → Int32) (C_positive : Nat → Int32) (C_negative : Nat → Int32) (C_live : Nat → Int32) (C_needed : Nat → Int32) (R_kind : Int32) (R_place : Int32) (R_at : Int32) (R_token : Int32) (R_tokenPlace : Int32) (R_number : Int32) (R_state : Int32) (R_block : Int32) (R_positive : Int32) (R_negative : Int32) (R_left : Int32) (R_right : Int32) (R_pivot : Int32) (L_of : Nat → Int32) (F_cut : Int32) (F_labelledA : Int32) (F_labelledB : Int32) (F_row : Nat → Int64) (A_root : Int32) (A_words : Nat → Int64) (A_known : Nat → Int32) (G_size : Int32) (G_variable : Nat → Int32) (G_low : Nat → Int32) (G_high : Nat → Int32) (G_numberOf : Nat → Int32) (G_nodeOf : Nat → Int32) (G_sides : Nat → Int32) (G_waiting : Nat → Int32) (B_table : Nat → Int64) (B_nextTable : Nat → Int64) : va_W :=
  [(ad 0, .inr (7, [.ref (ad 1), .ref (ad 3), .ref (ad 12), .ref (ad 13), .ref (ad 15), .ref (ad 17), .ref (ad 28), .ref (ad 29)])),
   (ad 1, .inr (6, [.ref (ad 2), .int T_length])),
   (ad 2, .inl (ca 3, 2000, .inl T_bytes)),
   (ad 3, .inr (1, [.ref (ad 4), .ref (ad 5), .ref (ad 6), .ref (ad 7), .ref (ad 8), .ref (ad 9), .ref (ad 10), .ref (ad 11), .int C_size, .int C_given, .int C_empty, .int C_drafted, .int C_draftedGiven])),
   (ad 4, .inl (ca 0, 201, .inl C_block)),
   (ad 5, .inl (ca 0, 201, .inl C_left)),
   (ad 6, .inl (ca 0, 201, .inl C_right)),
   (ad 7, .inl (ca 0, 201, .inl C_pivot)),
   (ad 8, .inl (ca 0, 201, .inl C_positive)),
   (ad 9, .inl (ca 0, 201, .inl C_negative)),
   (ad 10, .inl (ca 2, 201, .inl C_live)),
   (ad 11, .inl (ca 2, 201, .inl C_needed)),
   (ad 12, .inr (5, [.ref (ad 1), .ref (ad 3), .int R_kind, .int R_place, .int R_at, .int R_token, .int R_tokenPlace, .int R_number, .int R_state, .int R_block, .int R_positive, .int R_negative, .int R_left, .int R_right, .int R_pivot])),
   (ad 13, .inr (4, [.ref (ad 14)])),
   (ad 14, .inl (ca 0, 11, .inl L_of)),
   (ad 15, .inr (2, [.ref (ad 3), .ref (ad 13), .ref (ad 16), .int F_cut, .int F_labelledA, .int F_labelledB])),
   (ad 16, .inl (ca 1, 201, .inr (.inl F_row))),
   (ad 17, .inr (0, [.ref (ad 18), .ref (ad 19), .ref (ad 20), .int A_root])),
   (ad 18, .inl (ca 1, 3216, .inr (.inl A_words))),
   (ad 19, .inl (ca 2, 201, .inl A_known)),
   (ad 20, .inr (3, [.ref (ad 21), .ref (ad 22), .ref (ad 23), .ref (ad 24), .ref (ad 25), .ref (ad 26), .ref (ad 27), .int G_size])),
   (ad 21, .inl (ca 0, 269, .inl G_variable)),
   (ad 22, .inl (ca 0, 269, .inl G_low)),
   (ad 23, .inl (ca 0, 269, .inl G_high)),
   (ad 24, .inl (ca 0, 269, .inl G_numberOf)),
   (ad 25, .inl (ca 0, 269, .inl G_nodeOf)),
   (ad 26, .inl (ca 0, 1024, .inl G_sides)),
   (ad 27, .inl (ca 0, 12, .inl G_waiting)),
   (ad 28, .inl (ca 1, 16, .inr (.inl B_table))),
   (ad 29, .inl (ca 1, 16, .inr (.inl B_nextTable)))]
def WM (am : Nat → Nat) (ca : Nat → ClassId) (M_clauses : Int32) (M_given : Int32) (M_end : Int32) (M_taped : Int32) (M_size : Int32) (M_at : Int32) (M_to : Int32) (M_sort : Int32) (M_worth : Int32) (M_faultKind : Int32) (M_faultPlace : Int32) (M_isTold : Int32) (M_nodes : Int32) (M_plain : Nat → Int32) (M_minus : Nat → Int32) (M_block : Nat → Int32) (M_left : Nat → Int32) (M_right : Nat → Int32) (M_pivot : Nat → Int32) (M_live : Nat → Int32) (M_needed : Nat → Int32) (M_label : Nat → Int32) (M_tape : Nat → Int32) (M_of : Nat → Int64) (M_kept : Nat → Int64) (M_had : Nat → Int32) (M_told : Nat → Int64) (M_first : Nat → Int64) (M_second : Nat → Int64) (M_node : Nat → Int64) (M_nodeVariable : Nat → Int32) (M_nodeLow : Nat → Int32) (M_nodeHigh : Nat → Int32) (M_wait : Nat → Int32) : va_W :=
  [(am 0, .inr (8, [.ref (am 1), .ref (am 2), .ref (am 3), .ref (am 4), .ref (am 5), .ref (am 6), .ref (am 7), .ref (am 8), .int M_clauses, .int M_given, .int M_end, .ref (am 9), .ref (am 10), .int M_taped, .int M_size, .int M_at, .int M_to, .int M_sort, .int M_worth, .int M_faultKind, .int M_faultPlace, .ref (am 11), .ref (am 12), .ref (am 13), .ref (am 14), .int M_isTold, .ref (am 15), .ref (am 16), .ref (am 17), .ref (am 18), .ref (am 19), .ref (am 20), .int M_nodes, .ref (am 21)])),
   (am 1, .inl (ca 0, 202, .inl M_plain)),
   (am 2, .inl (ca 0, 202, .inl M_minus)),
   (am 3, .inl (ca 0, 202, .inl M_block)),
   (am 4, .inl (ca 0, 202, .inl M_left)),
   (am 5, .inl (ca 0, 202, .inl M_right)),
   (am 6, .inl (ca 0, 202, .inl M_pivot)),
   (am 7, .inl (ca 2, 202, .inl M_live)),
   (am 8, .inl (ca 2, 202, .inl M_needed)),
   (am 9, .inl (ca 0, 11, .inl M_label)),
   (am 10, .inl (ca 3, 2000, .inl M_tape)),
   (am 11, .inl (ca 1, 3232, .inr (.inl M_of))),
   (am 12, .inl (ca 1, 3232, .inr (.inl M_kept))),
   (am 13, .inl (ca 2, 202, .inl M_had)),
   (am 14, .inl (ca 1, 16, .inr (.inl M_told))),
   (am 15, .inl (ca 1, 16, .inr (.inl M_first))),
   (am 16, .inl (ca 1, 16, .inr (.inl M_second))),
   (am 17, .inl (ca 1, 4800, .inr (.inl M_node))),
   (am 18, .inl (ca 0, 300, .inl M_nodeVariable)),
   (am 19, .inl (ca 0, 300, .inl M_nodeLow)),
   (am 20, .inl (ca 0, 300, .inl M_nodeHigh)),
   (am 21, .inl (ca 0, 640, .inl M_wait))]
theorem g_B_bitOf : GY y_B_bitOf b_B_bitOf 1 (some .int) 1 := ⟨wm_457, wm_53, by decide +kernel, by decide +kernel, by decide +kernel⟩
def p_B_bitOf (x0 : Int32) (k : Int32 → Prop) : Prop :=
  (k ((1 : Int32) <<< ((x0 - (1 : Int32)) &&& 31)))
abbrev rm_B_bitOf : Room := { frames := 0, cells := 0, slots := 0, locals := 0 }
set_option maxHeartbeats 4000000 in
set_option maxRecDepth 100000 in
theorem c_B_bitOf {l : Launch} {D : va_G} {ca : Nat → ClassId} {tp : Nat} {ad : Nat → Nat} {T_length : Int32} {T_bytes : Nat → Int32} {C_size : Int32} {C_given : Int32} {C_empty : Int32} {C_drafted : Int32} {C_draftedGiven : Int32} {C_block : Nat → Int32} {C_left : Nat → Int32} {C_right : Nat → Int32} {C_pivot : Nat → Int32} {C_positive : Nat → Int32} {C_negative : Nat → Int32} {C_live : Nat → Int32} {C_needed : Nat → Int32} {R_kind : Int32} {R_place : Int32} {R_at : Int32} {R_token : Int32} {R_tokenPlace : Int32} {R_number : Int32} {R_state : Int32} {R_block : Int32} {R_positive : Int32} {R_negative : Int32} {R_left : Int32} {R_right : Int32} {R_pivot : Int32} {L_of : Nat → Int32} {F_cut : Int32} {F_labelledA : Int32} {F_labelledB : Int32} {F_row : Nat → Int64} {A_root : Int32} {A_words : Nat → Int64} {A_known : Nat → Int32} {G_size : Int32} {G_variable : Nat → Int32} {G_low : Nat → Int32} {G_high : Nat → Int32} {G_numberOf : Nat → Int32} {G_nodeOf : Nat → Int32} {G_sides : Nat → Int32} {G_waiting : Nat → Int32} {B_table : Nat → Int64} {B_nextTable : Nat → Int64} {x0 : Int32} {k : Int32 → Prop} (h : p_B_bitOf x0 k) :
    MTi l y_B_bitOf b_B_bitOf 1 (some .int) rm_B_bitOf D ca tp [.int x0] (WB ad ca T_length T_bytes C_size C_given C_empty C_drafted C_draftedGiven C_block C_left C_right C_pivot C_positive C_negative C_live C_needed R_kind R_place R_at R_token R_tokenPlace R_number R_state R_block R_positive R_negative R_left R_right R_pivot L_of F_cut F_labelledA F_labelledB F_row A_root A_words A_known G_size G_variable G_low G_high G_numberOf G_nodeOf G_sides G_waiting B_table B_nextTable)
      (fun r (_ : Unit) => k r)
      (fun (_ : Unit) => WB ad ca T_length T_bytes C_size C_given C_empty C_drafted C_draftedGiven C_block C_left C_right C_pivot C_positive C_negative C_live C_needed R_kind R_place R_at R_token R_tokenPlace R_number R_state R_block R_positive R_negative R_left R_right R_pivot L_of F_cut F_labelledA F_labelledB F_row A_root A_words A_known G_size G_variable G_low G_high G_numberOf G_nodeOf G_sides G_waiting B_table B_nextTable) 0 0 := by
  refine x_entryi (own := R_B) (nm := "bitOf") (by decide) rfl rfl (Nat.le_of_ble_eq_true rfl) (fun p e s m below meth c A ls C0 hw hl => ?_)
  have hx := C0.1
  have hb := C0.2.1
  have hl : lv_has ls 1 [(0, .int x0)] := hl
  unfold p_B_bitOf at h
  refine lv_iconst (v := 1) hx hb d_B_bitOf_0 (by decide) ?_
  refine lv_iload_n hx hb d_B_bitOf_1 rfl (lv_at hl 0 rfl) ?_
  refine lv_iconst (v := 1) hx hb d_B_bitOf_2 (by decide) ?_
  refine lv_isub hx hb d_B_bitOf_3 ?_
  refine lv_ishl hx hb d_B_bitOf_4 ?_
  exact x_iret C0 hw () h rfl d_B_bitOf_5
theorem g_C_startDraft : GY y_C_startDraft b_C_startDraft 1 none 0 := ⟨wm_352, wm_55, by decide +kernel, by decide +kernel, by decide +kernel⟩
def p_C_startDraft (C_size : Int32) (C_given : Int32) (k : Int32 → Int32 → Prop) : Prop :=
  (k C_size C_given)
abbrev rm_C_startDraft : Room := { frames := 0, cells := 0, slots := 0, locals := 0 }
set_option maxHeartbeats 4000000 in
set_option maxRecDepth 100000 in
theorem c_C_startDraft {l : Launch} {D : va_G} {ca : Nat → ClassId} {tp : Nat} {ad : Nat → Nat} {T_length : Int32} {T_bytes : Nat → Int32} {C_size : Int32} {C_given : Int32} {C_empty : Int32} {C_drafted : Int32} {C_draftedGiven : Int32} {C_block : Nat → Int32} {C_left : Nat → Int32} {C_right : Nat → Int32} {C_pivot : Nat → Int32} {C_positive : Nat → Int32} {C_negative : Nat → Int32} {C_live : Nat → Int32} {C_needed : Nat → Int32} {R_kind : Int32} {R_place : Int32} {R_at : Int32} {R_token : Int32} {R_tokenPlace : Int32} {R_number : Int32} {R_state : Int32} {R_block : Int32} {R_positive : Int32} {R_negative : Int32} {R_left : Int32} {R_right : Int32} {R_pivot : Int32} {L_of : Nat → Int32} {F_cut : Int32} {F_labelledA : Int32} {F_labelledB : Int32} {F_row : Nat → Int64} {A_root : Int32} {A_words : Nat → Int64} {A_known : Nat → Int32} {G_size : Int32} {G_variable : Nat → Int32} {G_low : Nat → Int32} {G_high : Nat → Int32} {G_numberOf : Nat → Int32} {G_nodeOf : Nat → Int32} {G_sides : Nat → Int32} {G_waiting : Nat → Int32} {B_table : Nat → Int64} {B_nextTable : Nat → Int64}  {k : Int32 → Int32 → Prop} (h : p_C_startDraft C_size C_given k) :
    MTv l y_C_startDraft b_C_startDraft 1 none rm_C_startDraft D ca tp [.ref (ad 3)] (WB ad ca T_length T_bytes C_size C_given C_empty C_drafted C_draftedGiven C_block C_left C_right C_pivot C_positive C_negative C_live C_needed R_kind R_place R_at R_token R_tokenPlace R_number R_state R_block R_positive R_negative R_left R_right R_pivot L_of F_cut F_labelledA F_labelledB F_row A_root A_words A_known G_size G_variable G_low G_high G_numberOf G_nodeOf G_sides G_waiting B_table B_nextTable)
      (fun (u : Int32 × Int32) => k u.1 u.2)
      (fun (u : Int32 × Int32) => WB ad ca T_length T_bytes C_size C_given C_empty u.1 u.2 C_block C_left C_right C_pivot C_positive C_negative C_live C_needed R_kind R_place R_at R_token R_tokenPlace R_number R_state R_block R_positive R_negative R_left R_right R_pivot L_of F_cut F_labelledA F_labelledB F_row A_root A_words A_known G_size G_variable G_low G_high G_numberOf G_nodeOf G_sides G_waiting B_table B_nextTable) 0 0 := by
  refine x_entryv (own := R_C) (nm := "startDraft") (by decide) rfl rfl (Nat.le_of_ble_eq_true rfl) (fun p e s m below meth c A ls C0 hw hl => ?_)
  have hx := C0.1
  have hb := C0.2.1
  have hl : lv_has ls 1 [(0, .ref (ad 3))] := hl
  unfold p_C_startDraft at h
  refine lv_aload_n hx hb d_C_startDraft_0 rfl (lv_at hl 0 rfl) ?_
  refine lv_aload_n hx hb d_C_startDraft_1 rfl (lv_at hl 0 rfl) ?_
  refine x_get C0 hw 3 rfl rfl i_C 8 (by decide) wm_118 rfl rfl d_C_startDraft_2 ?_
  refine x_put C0 hw 3 rfl rfl i_C tk_C n_C 11 (by decide) wm_126 rfl rfl rfl rfl (Nat.le_of_ble_eq_true rfl) (ws' := WB ad ca T_length T_bytes C_size C_given C_empty C_size C_draftedGiven C_block C_left C_right C_pivot C_positive C_negative C_live C_needed R_kind R_place R_at R_token R_tokenPlace R_number R_state R_block R_positive R_negative R_left R_right R_pivot L_of F_cut F_labelledA F_labelledB F_row A_root A_words A_known G_size G_variable G_low G_high G_numberOf G_nodeOf G_sides G_waiting B_table B_nextTable) rfl d_C_startDraft_5 (fun H locs hw => ?_)
  refine lv_aload_n hx hb d_C_startDraft_8 rfl (lv_at hl 0 rfl) ?_
  refine lv_aload_n hx hb d_C_startDraft_9 rfl (lv_at hl 0 rfl) ?_
  refine x_get C0 hw 3 rfl rfl i_C 9 (by decide) wm_120 rfl rfl d_C_startDraft_10 ?_
  refine x_put C0 hw 3 rfl rfl i_C tk_C n_C 12 (by decide) wm_127 rfl rfl rfl rfl (Nat.le_of_ble_eq_true rfl) (ws' := WB ad ca T_length T_bytes C_size C_given C_empty C_size C_given C_block C_left C_right C_pivot C_positive C_negative C_live C_needed R_kind R_place R_at R_token R_tokenPlace R_number R_state R_block R_positive R_negative R_left R_right R_pivot L_of F_cut F_labelledA F_labelledB F_row A_root A_words A_known G_size G_variable G_low G_high G_numberOf G_nodeOf G_sides G_waiting B_table B_nextTable) rfl d_C_startDraft_13 (fun H locs hw => ?_)
  exact x_vret C0 hw (C_size, C_given) h rfl d_C_startDraft_16
theorem g_C_hasRoom : GY y_C_hasRoom b_C_hasRoom 1 (some .boolean) 0 := ⟨wm_397, wm_55, by decide +kernel, by decide +kernel, by decide +kernel⟩
def p_C_hasRoom (C_drafted : Int32) (k : Int32 → Prop) : Prop :=
  (((200 : Int32) ≤ C_drafted → (k (0 : Int32))) ∧ (¬ (200 : Int32) ≤ C_drafted → (k (1 : Int32))))
abbrev rm_C_hasRoom : Room := { frames := 0, cells := 0, slots := 0, locals := 0 }
set_option maxHeartbeats 4000000 in
set_option maxRecDepth 100000 in
theorem c_C_hasRoom {l : Launch} {D : va_G} {ca : Nat → ClassId} {tp : Nat} {ad : Nat → Nat} {T_length : Int32} {T_bytes : Nat → Int32} {C_size : Int32} {C_given : Int32} {C_empty : Int32} {C_drafted : Int32} {C_draftedGiven : Int32} {C_block : Nat → Int32} {C_left : Nat → Int32} {C_right : Nat → Int32} {C_pivot : Nat → Int32} {C_positive : Nat → Int32} {C_negative : Nat → Int32} {C_live : Nat → Int32} {C_needed : Nat → Int32} {R_kind : Int32} {R_place : Int32} {R_at : Int32} {R_token : Int32} {R_tokenPlace : Int32} {R_number : Int32} {R_state : Int32} {R_block : Int32} {R_positive : Int32} {R_negative : Int32} {R_left : Int32} {R_right : Int32} {R_pivot : Int32} {L_of : Nat → Int32} {F_cut : Int32} {F_labelledA : Int32} {F_labelledB : Int32} {F_row : Nat → Int64} {A_root : Int32} {A_words : Nat → Int64} {A_known : Nat → Int32} {G_size : Int32} {G_variable : Nat → Int32} {G_low : Nat → Int32} {G_high : Nat → Int32} {G_numberOf : Nat → Int32} {G_nodeOf : Nat → Int32} {G_sides : Nat → Int32} {G_waiting : Nat → Int32} {B_table : Nat → Int64} {B_nextTable : Nat → Int64}  {k : Int32 → Prop} (h : p_C_hasRoom C_drafted k) :
    MTi l y_C_hasRoom b_C_hasRoom 1 (some .boolean) rm_C_hasRoom D ca tp [.ref (ad 3)] (WB ad ca T_length T_bytes C_size C_given C_empty C_drafted C_draftedGiven C_block C_left C_right C_pivot C_positive C_negative C_live C_needed R_kind R_place R_at R_token R_tokenPlace R_number R_state R_block R_positive R_negative R_left R_right R_pivot L_of F_cut F_labelledA F_labelledB F_row A_root A_words A_known G_size G_variable G_low G_high G_numberOf G_nodeOf G_sides G_waiting B_table B_nextTable)
      (fun r (_ : Unit) => k r)
      (fun (_ : Unit) => WB ad ca T_length T_bytes C_size C_given C_empty C_drafted C_draftedGiven C_block C_left C_right C_pivot C_positive C_negative C_live C_needed R_kind R_place R_at R_token R_tokenPlace R_number R_state R_block R_positive R_negative R_left R_right R_pivot L_of F_cut F_labelledA F_labelledB F_row A_root A_words A_known G_size G_variable G_low G_high G_numberOf G_nodeOf G_sides G_waiting B_table B_nextTable) 0 0 := by
  refine x_entryi (own := R_C) (nm := "hasRoom") (by decide) rfl rfl (Nat.le_of_ble_eq_true rfl) (fun p e s m below meth c A ls C0 hw hl => ?_)
  have hx := C0.1
  have hb := C0.2.1
  have hl : lv_has ls 1 [(0, .ref (ad 3))] := hl
  unfold p_C_hasRoom at h
  refine lv_aload_n hx hb d_C_hasRoom_0 rfl (lv_at hl 0 rfl) ?_
  refine x_get C0 hw 3 rfl rfl i_C 11 (by decide) wm_126 rfl rfl d_C_hasRoom_1 ?_
  refine lv_sipush (v := 200) hx hb d_C_hasRoom_4 (by decide) ?_
  refine lv_icmp_ge (tgt := 14) hx hb d_C_hasRoom_7 (by decide) (fun c_1 => ?_) (fun c_1 => ?_)
  · have h := h.1 c_1
    refine lv_iconst (v := 0) hx hb d_C_hasRoom_14 (by decide) ?_
    exact x_zret C0 hw rfl () h rfl d_C_hasRoom_15
  · have h := h.2 c_1
    refine lv_iconst (v := 1) hx hb d_C_hasRoom_10 (by decide) ?_
    refine lv_goto (tgt := 15) hx hb d_C_hasRoom_11 (by decide) ?_
    exact x_zret C0 hw rfl () h rfl d_C_hasRoom_15
theorem g_C_hasRoomForGiven : GY y_C_hasRoomForGiven b_C_hasRoomForGiven 1 (some .boolean) 0 := ⟨wm_393, wm_55, by decide +kernel, by decide +kernel, by decide +kernel⟩
def p_C_hasRoomForGiven (C_drafted : Int32) (C_draftedGiven : Int32) (k : Int32 → Prop) : Prop :=
  (p_C_hasRoom C_drafted (fun (r_1 : Int32) => ((r_1 = 0 → (k (0 : Int32))) ∧ (¬ r_1 = 0 → (((60 : Int32) ≤ C_draftedGiven → (k (0 : Int32))) ∧ (¬ (60 : Int32) ≤ C_draftedGiven → (k (1 : Int32))))))))
abbrev rm_C_hasRoomForGiven : Room := { frames := 1, cells := 0, slots := 0, locals := 20 }
set_option maxHeartbeats 4000000 in
set_option maxRecDepth 100000 in
theorem c_C_hasRoomForGiven {l : Launch} {D : va_G} {ca : Nat → ClassId} {tp : Nat} {ad : Nat → Nat} {T_length : Int32} {T_bytes : Nat → Int32} {C_size : Int32} {C_given : Int32} {C_empty : Int32} {C_drafted : Int32} {C_draftedGiven : Int32} {C_block : Nat → Int32} {C_left : Nat → Int32} {C_right : Nat → Int32} {C_pivot : Nat → Int32} {C_positive : Nat → Int32} {C_negative : Nat → Int32} {C_live : Nat → Int32} {C_needed : Nat → Int32} {R_kind : Int32} {R_place : Int32} {R_at : Int32} {R_token : Int32} {R_tokenPlace : Int32} {R_number : Int32} {R_state : Int32} {R_block : Int32} {R_positive : Int32} {R_negative : Int32} {R_left : Int32} {R_right : Int32} {R_pivot : Int32} {L_of : Nat → Int32} {F_cut : Int32} {F_labelledA : Int32} {F_labelledB : Int32} {F_row : Nat → Int64} {A_root : Int32} {A_words : Nat → Int64} {A_known : Nat → Int32} {G_size : Int32} {G_variable : Nat → Int32} {G_low : Nat → Int32} {G_high : Nat → Int32} {G_numberOf : Nat → Int32} {G_nodeOf : Nat → Int32} {G_sides : Nat → Int32} {G_waiting : Nat → Int32} {B_table : Nat → Int64} {B_nextTable : Nat → Int64}  {k : Int32 → Prop} (h : p_C_hasRoomForGiven C_drafted C_draftedGiven k) :
    MTi l y_C_hasRoomForGiven b_C_hasRoomForGiven 1 (some .boolean) rm_C_hasRoomForGiven D ca tp [.ref (ad 3)] (WB ad ca T_length T_bytes C_size C_given C_empty C_drafted C_draftedGiven C_block C_left C_right C_pivot C_positive C_negative C_live C_needed R_kind R_place R_at R_token R_tokenPlace R_number R_state R_block R_positive R_negative R_left R_right R_pivot L_of F_cut F_labelledA F_labelledB F_row A_root A_words A_known G_size G_variable G_low G_high G_numberOf G_nodeOf G_sides G_waiting B_table B_nextTable)
      (fun r (_ : Unit) => k r)
      (fun (_ : Unit) => WB ad ca T_length T_bytes C_size C_given C_empty C_drafted C_draftedGiven C_block C_left C_right C_pivot C_positive C_negative C_live C_needed R_kind R_place R_at R_token R_tokenPlace R_number R_state R_block R_positive R_negative R_left R_right R_pivot L_of F_cut F_labelledA F_labelledB F_row A_root A_words A_known G_size G_variable G_low G_high G_numberOf G_nodeOf G_sides G_waiting B_table B_nextTable) 0 0 := by
  refine x_entryi (own := R_C) (nm := "hasRoomForGiven") (by decide) rfl rfl (Nat.le_of_ble_eq_true rfl) (fun p e s m below meth c A ls C0 hw hl => ?_)
  have hx := C0.1
  have hb := C0.2.1
  have hl : lv_has ls 1 [(0, .ref (ad 3))] := hl
  unfold p_C_hasRoomForGiven at h
  refine lv_aload_n hx hb d_C_hasRoomForGiven_0 rfl (lv_at hl 0 rfl) ?_
  refine x_callVi C0 hw hl (c_C_hasRoom h) g_C_hasRoom wm_394 ⟨wm_396, wm_395⟩ 3 rfl rfl rfl (As := []) (rest := []) rfl rfl (Nat.le_of_ble_eq_true rfl) ⟨rfl, rfl⟩ ⟨Nat.le_of_ble_eq_true rfl, Nat.le_of_ble_eq_true rfl⟩ ⟨Nat.le_of_ble_eq_true rfl, Nat.le_of_ble_eq_true rfl⟩ d_C_hasRoomForGiven_1 (fun r_1 u H locs h hw => ?_)
  refine lv_if_eq (tgt := 20) hx hb d_C_hasRoomForGiven_4 (by decide) (fun c_2 => ?_) (fun c_2 => ?_)
  · have h := h.1 c_2
    refine lv_iconst (v := 0) hx hb d_C_hasRoomForGiven_20 (by decide) ?_
    exact x_zret C0 hw rfl () h rfl d_C_hasRoomForGiven_21
  · have h := h.2 c_2
    refine lv_aload_n hx hb d_C_hasRoomForGiven_7 rfl (lv_at hl 0 rfl) ?_
    refine x_get C0 hw 3 rfl rfl i_C 12 (by decide) wm_127 rfl rfl d_C_hasRoomForGiven_8 ?_
    refine lv_bipush (v := 60) hx hb d_C_hasRoomForGiven_11 (by decide) ?_
    refine lv_icmp_ge (tgt := 20) hx hb d_C_hasRoomForGiven_13 (by decide) (fun c_3 => ?_) (fun c_3 => ?_)
    · have h := h.1 c_3
      refine lv_iconst (v := 0) hx hb d_C_hasRoomForGiven_20 (by decide) ?_
      exact x_zret C0 hw rfl () h rfl d_C_hasRoomForGiven_21
    · have h := h.2 c_3
      refine lv_iconst (v := 1) hx hb d_C_hasRoomForGiven_16 (by decide) ?_
      refine lv_goto (tgt := 21) hx hb d_C_hasRoomForGiven_17 (by decide) ?_
      exact x_zret C0 hw rfl () h rfl d_C_hasRoomForGiven_21
theorem g_C_isDrafted : GY y_C_isDrafted b_C_isDrafted 2 (some .boolean) 1 := ⟨wm_439, wm_55, by decide +kernel, by decide +kernel, by decide +kernel⟩
def p_C_isDrafted (C_drafted : Int32) (x1 : Int32) (k : Int32 → Prop) : Prop :=
  ((x1 < (1 : Int32) → (k (0 : Int32))) ∧ (¬ x1 < (1 : Int32) → ((C_drafted < x1 → (k (0 : Int32))) ∧ (¬ C_drafted < x1 → (((200 : Int32) < x1 → (k (0 : Int32))) ∧ (¬ (200 : Int32) < x1 → (k (1 : Int32))))))))
abbrev rm_C_isDrafted : Room := { frames := 0, cells := 0, slots := 0, locals := 0 }
set_option maxHeartbeats 4000000 in
set_option maxRecDepth 100000 in
theorem c_C_isDrafted {l : Launch} {D : va_G} {ca : Nat → ClassId} {tp : Nat} {ad : Nat → Nat} {T_length : Int32} {T_bytes : Nat → Int32} {C_size : Int32} {C_given : Int32} {C_empty : Int32} {C_drafted : Int32} {C_draftedGiven : Int32} {C_block : Nat → Int32} {C_left : Nat → Int32} {C_right : Nat → Int32} {C_pivot : Nat → Int32} {C_positive : Nat → Int32} {C_negative : Nat → Int32} {C_live : Nat → Int32} {C_needed : Nat → Int32} {R_kind : Int32} {R_place : Int32} {R_at : Int32} {R_token : Int32} {R_tokenPlace : Int32} {R_number : Int32} {R_state : Int32} {R_block : Int32} {R_positive : Int32} {R_negative : Int32} {R_left : Int32} {R_right : Int32} {R_pivot : Int32} {L_of : Nat → Int32} {F_cut : Int32} {F_labelledA : Int32} {F_labelledB : Int32} {F_row : Nat → Int64} {A_root : Int32} {A_words : Nat → Int64} {A_known : Nat → Int32} {G_size : Int32} {G_variable : Nat → Int32} {G_low : Nat → Int32} {G_high : Nat → Int32} {G_numberOf : Nat → Int32} {G_nodeOf : Nat → Int32} {G_sides : Nat → Int32} {G_waiting : Nat → Int32} {B_table : Nat → Int64} {B_nextTable : Nat → Int64} {x1 : Int32} {k : Int32 → Prop} (h : p_C_isDrafted C_drafted x1 k) :
    MTi l y_C_isDrafted b_C_isDrafted 2 (some .boolean) rm_C_isDrafted D ca tp [.ref (ad 3), .int x1] (WB ad ca T_length T_bytes C_size C_given C_empty C_drafted C_draftedGiven C_block C_left C_right C_pivot C_positive C_negative C_live C_needed R_kind R_place R_at R_token R_tokenPlace R_number R_state R_block R_positive R_negative R_left R_right R_pivot L_of F_cut F_labelledA F_labelledB F_row A_root A_words A_known G_size G_variable G_low G_high G_numberOf G_nodeOf G_sides G_waiting B_table B_nextTable)
      (fun r (_ : Unit) => k r)
      (fun (_ : Unit) => WB ad ca T_length T_bytes C_size C_given C_empty C_drafted C_draftedGiven C_block C_left C_right C_pivot C_positive C_negative C_live C_needed R_kind R_place R_at R_token R_tokenPlace R_number R_state R_block R_positive R_negative R_left R_right R_pivot L_of F_cut F_labelledA F_labelledB F_row A_root A_words A_known G_size G_variable G_low G_high G_numberOf G_nodeOf G_sides G_waiting B_table B_nextTable) 0 0 := by
  refine x_entryi (own := R_C) (nm := "isDrafted") (by decide) rfl rfl (Nat.le_of_ble_eq_true rfl) (fun p e s m below meth c A ls C0 hw hl => ?_)
  have hx := C0.1
  have hb := C0.2.1
  have hl : lv_has ls 2 [(0, .ref (ad 3)), (1, .int x1)] := hl
  unfold p_C_isDrafted at h
  refine lv_iload_n hx hb d_C_isDrafted_0 rfl (lv_at hl 1 rfl) ?_
  refine lv_iconst (v := 1) hx hb d_C_isDrafted_1 (by decide) ?_
  refine lv_icmp_lt (tgt := 24) hx hb d_C_isDrafted_2 (by decide) (fun c_1 => ?_) (fun c_1 => ?_)
  · have h := h.1 c_1
    refine lv_iconst (v := 0) hx hb d_C_isDrafted_24 (by decide) ?_
    exact x_zret C0 hw rfl () h rfl d_C_isDrafted_25
  · have h := h.2 c_1
    refine lv_iload_n hx hb d_C_isDrafted_5 rfl (lv_at hl 1 rfl) ?_
    refine lv_aload_n hx hb d_C_isDrafted_6 rfl (lv_at hl 0 rfl) ?_
    refine x_get C0 hw 3 rfl rfl i_C 11 (by decide) wm_126 rfl rfl d_C_isDrafted_7 ?_
    refine lv_icmp_gt (tgt := 24) hx hb d_C_isDrafted_10 (by decide) (fun c_2 => ?_) (fun c_2 => ?_)
    · have h := h.1 c_2
      refine lv_iconst (v := 0) hx hb d_C_isDrafted_24 (by decide) ?_
      exact x_zret C0 hw rfl () h rfl d_C_isDrafted_25
    · have h := h.2 c_2
      refine lv_iload_n hx hb d_C_isDrafted_13 rfl (lv_at hl 1 rfl) ?_
      refine lv_sipush (v := 200) hx hb d_C_isDrafted_14 (by decide) ?_
      refine lv_icmp_gt (tgt := 24) hx hb d_C_isDrafted_17 (by decide) (fun c_3 => ?_) (fun c_3 => ?_)
      · have h := h.1 c_3
        refine lv_iconst (v := 0) hx hb d_C_isDrafted_24 (by decide) ?_
        exact x_zret C0 hw rfl () h rfl d_C_isDrafted_25
      · have h := h.2 c_3
        refine lv_iconst (v := 1) hx hb d_C_isDrafted_20 (by decide) ?_
        refine lv_goto (tgt := 25) hx hb d_C_isDrafted_21 (by decide) ?_
        exact x_zret C0 hw rfl () h rfl d_C_isDrafted_25
theorem g_C_isGivenOf : GY y_C_isGivenOf b_C_isGivenOf 4 (some .boolean) 3 := ⟨wm_564, wm_55, by decide +kernel, by decide +kernel, by decide +kernel⟩
def p_C_isGivenOf (C_block : Nat → Int32) (x1 : Int32) (x2 : Int32) (x3 : Int32) (k : Int32 → Prop) : Prop :=
  (vp_in x1 201 ∧ (((C_block x1.toNatClampNeg) = 0 → (k (0 : Int32))) ∧ (¬ (C_block x1.toNatClampNeg) = 0 → (((C_block x1.toNatClampNeg) < x2 → (k (0 : Int32))) ∧ (¬ (C_block x1.toNatClampNeg) < x2 → ((x3 < (C_block x1.toNatClampNeg) → (k (0 : Int32))) ∧ (¬ x3 < (C_block x1.toNatClampNeg) → (k (1 : Int32)))))))))
abbrev rm_C_isGivenOf : Room := { frames := 0, cells := 0, slots := 0, locals := 0 }
set_option maxHeartbeats 4000000 in
set_option maxRecDepth 100000 in
theorem c_C_isGivenOf {l : Launch} {D : va_G} {ca : Nat → ClassId} {tp : Nat} {ad : Nat → Nat} {T_length : Int32} {T_bytes : Nat → Int32} {C_size : Int32} {C_given : Int32} {C_empty : Int32} {C_drafted : Int32} {C_draftedGiven : Int32} {C_block : Nat → Int32} {C_left : Nat → Int32} {C_right : Nat → Int32} {C_pivot : Nat → Int32} {C_positive : Nat → Int32} {C_negative : Nat → Int32} {C_live : Nat → Int32} {C_needed : Nat → Int32} {R_kind : Int32} {R_place : Int32} {R_at : Int32} {R_token : Int32} {R_tokenPlace : Int32} {R_number : Int32} {R_state : Int32} {R_block : Int32} {R_positive : Int32} {R_negative : Int32} {R_left : Int32} {R_right : Int32} {R_pivot : Int32} {L_of : Nat → Int32} {F_cut : Int32} {F_labelledA : Int32} {F_labelledB : Int32} {F_row : Nat → Int64} {A_root : Int32} {A_words : Nat → Int64} {A_known : Nat → Int32} {G_size : Int32} {G_variable : Nat → Int32} {G_low : Nat → Int32} {G_high : Nat → Int32} {G_numberOf : Nat → Int32} {G_nodeOf : Nat → Int32} {G_sides : Nat → Int32} {G_waiting : Nat → Int32} {B_table : Nat → Int64} {B_nextTable : Nat → Int64} {x1 : Int32} {x2 : Int32} {x3 : Int32} {k : Int32 → Prop} (h : p_C_isGivenOf C_block x1 x2 x3 k) :
    MTi l y_C_isGivenOf b_C_isGivenOf 4 (some .boolean) rm_C_isGivenOf D ca tp [.ref (ad 3), .int x1, .int x2, .int x3] (WB ad ca T_length T_bytes C_size C_given C_empty C_drafted C_draftedGiven C_block C_left C_right C_pivot C_positive C_negative C_live C_needed R_kind R_place R_at R_token R_tokenPlace R_number R_state R_block R_positive R_negative R_left R_right R_pivot L_of F_cut F_labelledA F_labelledB F_row A_root A_words A_known G_size G_variable G_low G_high G_numberOf G_nodeOf G_sides G_waiting B_table B_nextTable)
      (fun r (_ : Unit) => k r)
      (fun (_ : Unit) => WB ad ca T_length T_bytes C_size C_given C_empty C_drafted C_draftedGiven C_block C_left C_right C_pivot C_positive C_negative C_live C_needed R_kind R_place R_at R_token R_tokenPlace R_number R_state R_block R_positive R_negative R_left R_right R_pivot L_of F_cut F_labelledA F_labelledB F_row A_root A_words A_known G_size G_variable G_low G_high G_numberOf G_nodeOf G_sides G_waiting B_table B_nextTable) 0 0 := by
  refine x_entryi (own := R_C) (nm := "isGivenOf") (by decide) rfl rfl (Nat.le_of_ble_eq_true rfl) (fun p e s m below meth c A ls C0 hw hl => ?_)
  have hx := C0.1
  have hb := C0.2.1
  have hl : lv_has ls 4 [(0, .ref (ad 3)), (1, .int x1), (2, .int x2), (3, .int x3)] := hl
  unfold p_C_isGivenOf at h
  refine lv_aload_n hx hb d_C_isGivenOf_0 rfl (lv_at hl 0 rfl) ?_
  refine x_get C0 hw 3 rfl rfl i_C 0 (by decide) wm_95 rfl rfl d_C_isGivenOf_1 ?_
  refine lv_iload_n hx hb d_C_isGivenOf_4 rfl (lv_at hl 1 rfl) ?_
  obtain ⟨hi_1, h⟩ := h
  refine x_iald C0 hw 4 rfl hi_1 d_C_isGivenOf_5 ?_
  refine lv_if_eq (tgt := 33) hx hb d_C_isGivenOf_6 (by decide) (fun c_2 => ?_) (fun c_2 => ?_)
  · have h := h.1 c_2
    refine lv_iconst (v := 0) hx hb d_C_isGivenOf_33 (by decide) ?_
    exact x_zret C0 hw rfl () h rfl d_C_isGivenOf_34
  · have h := h.2 c_2
    refine lv_aload_n hx hb d_C_isGivenOf_9 rfl (lv_at hl 0 rfl) ?_
    refine x_get C0 hw 3 rfl rfl i_C 0 (by decide) wm_95 rfl rfl d_C_isGivenOf_10 ?_
    refine lv_iload_n hx hb d_C_isGivenOf_13 rfl (lv_at hl 1 rfl) ?_
    refine x_iald C0 hw 4 rfl hi_1 d_C_isGivenOf_14 ?_
    refine lv_iload_n hx hb d_C_isGivenOf_15 rfl (lv_at hl 2 rfl) ?_
    refine lv_icmp_lt (tgt := 33) hx hb d_C_isGivenOf_16 (by decide) (fun c_3 => ?_) (fun c_3 => ?_)
    · have h := h.1 c_3
      refine lv_iconst (v := 0) hx hb d_C_isGivenOf_33 (by decide) ?_
      exact x_zret C0 hw rfl () h rfl d_C_isGivenOf_34
    · have h := h.2 c_3
      refine lv_aload_n hx hb d_C_isGivenOf_19 rfl (lv_at hl 0 rfl) ?_
      refine x_get C0 hw 3 rfl rfl i_C 0 (by decide) wm_95 rfl rfl d_C_isGivenOf_20 ?_
      refine lv_iload_n hx hb d_C_isGivenOf_23 rfl (lv_at hl 1 rfl) ?_
      refine x_iald C0 hw 4 rfl hi_1 d_C_isGivenOf_24 ?_
      refine lv_iload_n hx hb d_C_isGivenOf_25 rfl (lv_at hl 3 rfl) ?_
      refine lv_icmp_gt (tgt := 33) hx hb d_C_isGivenOf_26 (by decide) (fun c_4 => ?_) (fun c_4 => ?_)
      · have h := h.1 c_4
        refine lv_iconst (v := 0) hx hb d_C_isGivenOf_33 (by decide) ?_
        exact x_zret C0 hw rfl () h rfl d_C_isGivenOf_34
      · have h := h.2 c_4
        refine lv_iconst (v := 1) hx hb d_C_isGivenOf_29 (by decide) ?_
        refine lv_goto (tgt := 34) hx hb d_C_isGivenOf_30 (by decide) ?_
        exact x_zret C0 hw rfl () h rfl d_C_isGivenOf_34
theorem g_C_occurring : GY y_C_occurring b_C_occurring 5 (some .int) 2 := ⟨wm_560, wm_55, by decide +kernel, by decide +kernel, by decide +kernel⟩
def p_C_occurring_L5 (C_size : Int32) (C_block : Nat → Int32) (C_positive : Nat → Int32) (C_negative : Nat → Int32) (x1 : Int32) (x2 : Int32) (k : Int32 → Prop) : Nat → Int32 → Int32 → Prop
  | 0, _, _ => False
  | n + 1, x3, x4 =>
    ((C_size < x4 → (k x3)) ∧ (¬ C_size < x4 → (p_C_isGivenOf C_block x4 x1 x2 (fun (r_2 : Int32) => ((r_2 = 0 → (p_C_occurring_L5 C_size C_block C_positive C_negative x1 x2 k n x3 (x4 + 1))) ∧ (¬ r_2 = 0 → (vp_in x4 201 ∧ (∀ v3_5 : Int32, v3_5 = (x3 ||| ((C_positive x4.toNatClampNeg) ||| (C_negative x4.toNatClampNeg))) → (p_C_occurring_L5 C_size C_block C_positive C_negative x1 x2 k n v3_5 (x4 + 1))))))))))
def p_C_occurring (C_size : Int32) (C_block : Nat → Int32) (C_positive : Nat → Int32) (C_negative : Nat → Int32) (x1 : Int32) (x2 : Int32) (k : Int32 → Prop) : Prop :=
  (∃ n, p_C_occurring_L5 C_size C_block C_positive C_negative x1 x2 k n (0 : Int32) (1 : Int32))
abbrev rm_C_occurring : Room := { frames := 1, cells := 0, slots := 0, locals := 23 }
set_option maxHeartbeats 4000000 in
set_option maxRecDepth 100000 in
theorem b_C_occurring_L5 {p : Program} {l : Launch} {e : Env} {s : State} {m : MethodId} {args : Array Value} {below : List Frame} {meth : Method} {c : Code} {D : va_G} {ca : Nat → ClassId} {tp : Nat} {A : Nat → Prop} {ad : Nat → Nat} {T_length : Int32} {T_bytes : Nat → Int32} {C_size : Int32} {C_given : Int32} {C_empty : Int32} {C_drafted : Int32} {C_draftedGiven : Int32} {C_block : Nat → Int32} {C_left : Nat → Int32} {C_right : Nat → Int32} {C_pivot : Nat → Int32} {C_positive : Nat → Int32} {C_negative : Nat → Int32} {C_live : Nat → Int32} {C_needed : Nat → Int32} {R_kind : Int32} {R_place : Int32} {R_at : Int32} {R_token : Int32} {R_tokenPlace : Int32} {R_number : Int32} {R_state : Int32} {R_block : Int32} {R_positive : Int32} {R_negative : Int32} {R_left : Int32} {R_right : Int32} {R_pivot : Int32} {L_of : Nat → Int32} {F_cut : Int32} {F_labelledA : Int32} {F_labelledB : Int32} {F_row : Nat → Int64} {A_root : Int32} {A_words : Nat → Int64} {A_known : Nat → Int32} {G_size : Int32} {G_variable : Nat → Int32} {G_low : Nat → Int32} {G_high : Nat → Int32} {G_numberOf : Nat → Int32} {G_nodeOf : Nat → Int32} {G_sides : Nat → Int32} {G_waiting : Nat → Int32} {B_table : Nat → Int64} {B_nextTable : Nat → Int64} {x1 : Int32} {x2 : Int32} {k : Int32 → Prop}  (C0 : CX p s m args meth c b_C_occurring 5 (some .int) R_C "occurring" D ca tp A) :
    ∀ (n : Nat) (x3 : Int32) (x4 : Int32) {H : Heap} {locs : List Loc} {ls : Array Slot}, p_C_occurring_L5 C_size C_block C_positive C_negative x1 x2 k n x3 x4 → WH D A s (WB ad ca T_length T_bytes C_size C_given C_empty C_drafted C_draftedGiven C_block C_left C_right C_pivot C_positive C_negative C_live C_needed R_kind R_place R_at R_token R_tokenPlace R_number R_state R_block R_positive R_negative R_left R_right R_pivot L_of F_cut F_labelledA F_labelledB F_row A_root A_words A_known G_size G_variable G_low G_high G_numberOf G_nodeOf G_sides G_waiting B_table B_nextTable) H locs → lv_has ls 5 [(0, .ref (ad 3)), (1, .int x1), (2, .int x2), (3, .int x3), (4, .int x4)] →
      W p l e rm_C_occurring s m args below meth c H locs 0 0 (QI D A below args s (fun r (_ : Unit) => k r) (fun (_ : Unit) => WB ad ca T_length T_bytes C_size C_given C_empty C_drafted C_draftedGiven C_block C_left C_right C_pivot C_positive C_negative C_live C_needed R_kind R_place R_at R_token R_tokenPlace R_number R_state R_block R_positive R_negative R_left R_right R_pivot L_of F_cut F_labelledA F_labelledB F_row A_root A_words A_known G_size G_variable G_low G_high G_numberOf G_nodeOf G_sides G_waiting B_table B_nextTable) 0 0) (F0 m 5 ls []) := by
  have hx := C0.1
  have hb := C0.2.1
  intro n
  induction n with
  | zero =>
    intro x3 x4 H locs ls h
    exact False.elim h
  | succ n ih =>
    intro x3 x4 H locs ls h hw hl
    unfold p_C_occurring_L5 at h
    refine lv_iload hx hb d_C_occurring_5 (lv_at hl 4 rfl) ?_
    refine lv_aload_n hx hb d_C_occurring_7 rfl (lv_at hl 0 rfl) ?_
    refine x_get C0 hw 3 rfl rfl i_C 8 (by decide) wm_118 rfl rfl d_C_occurring_8 ?_
    refine lv_icmp_gt (tgt := 49) hx hb d_C_occurring_11 (by decide) (fun c_1 => ?_) (fun c_1 => ?_)
    · have h := h.1 c_1
      refine lv_iload_n hx hb d_C_occurring_49 rfl (lv_at hl 3 rfl) ?_
      exact x_iret C0 hw () h rfl d_C_occurring_50
    · have h := h.2 c_1
      refine lv_aload_n hx hb d_C_occurring_14 rfl (lv_at hl 0 rfl) ?_
      refine lv_iload hx hb d_C_occurring_15 (lv_at hl 4 rfl) ?_
      refine lv_iload_n hx hb d_C_occurring_17 rfl (lv_at hl 1 rfl) ?_
      refine lv_iload_n hx hb d_C_occurring_18 rfl (lv_at hl 2 rfl) ?_
      refine x_callVi C0 hw hl (c_C_isGivenOf h) g_C_isGivenOf wm_561 ⟨wm_24, wm_563⟩ 3 rfl rfl rfl (As := [.int x4, .int x1, .int x2]) (rest := []) rfl rfl (Nat.le_of_ble_eq_true rfl) ⟨rfl, rfl⟩ ⟨Nat.le_of_ble_eq_true rfl, Nat.le_of_ble_eq_true rfl⟩ ⟨Nat.le_of_ble_eq_true rfl, Nat.le_of_ble_eq_true rfl⟩ d_C_occurring_19 (fun r_2 u H locs h hw => ?_)
      refine lv_if_eq (tgt := 43) hx hb d_C_occurring_22 (by decide) (fun c_3 => ?_) (fun c_3 => ?_)
      · have h := h.1 c_3
        refine lv_iinc (v := (x4 + 1)) (lv' := [(4, .int (x4 + 1)), (0, .ref (ad 3)), (1, .int x1), (2, .int x2), (3, .int x3)]) hx hb d_C_occurring_43 hl (k := 4) rfl rfl (by decide) rfl (fun ls hl => ?_)
        refine lv_goto (tgt := 5) hx hb d_C_occurring_46 (by decide) ?_
        exact ih _ _ h hw (lv_sub hl [1, 2, 3, 4, 0] rfl)
      · have h := h.2 c_3
        refine lv_iload_n hx hb d_C_occurring_25 rfl (lv_at hl 3 rfl) ?_
        refine lv_aload_n hx hb d_C_occurring_26 rfl (lv_at hl 0 rfl) ?_
        refine x_get C0 hw 3 rfl rfl i_C 4 (by decide) wm_107 rfl rfl d_C_occurring_27 ?_
        refine lv_iload hx hb d_C_occurring_30 (lv_at hl 4 rfl) ?_
        obtain ⟨hi_4, h⟩ := h
        refine x_iald C0 hw 8 rfl hi_4 d_C_occurring_32 ?_
        refine lv_aload_n hx hb d_C_occurring_33 rfl (lv_at hl 0 rfl) ?_
        refine x_get C0 hw 3 rfl rfl i_C 5 (by decide) wm_110 rfl rfl d_C_occurring_34 ?_
        refine lv_iload hx hb d_C_occurring_37 (lv_at hl 4 rfl) ?_
        refine x_iald C0 hw 9 rfl hi_4 d_C_occurring_39 ?_
        refine lv_ior hx hb d_C_occurring_40 ?_
        refine lv_ior hx hb d_C_occurring_41 ?_
        refine lv_topi (fun v3_5 e_v3_5 => ?_)
        have h := h v3_5 e_v3_5
        refine lv_istore_n (lv' := [(3, .int v3_5), (0, .ref (ad 3)), (1, .int x1), (2, .int x2), (4, .int x4)]) hx hb d_C_occurring_42 rfl hl (by decide) rfl (fun ls hl => ?_)
        refine lv_iinc (v := (x4 + 1)) (lv' := [(4, .int (x4 + 1)), (3, .int v3_5), (0, .ref (ad 3)), (1, .int x1), (2, .int x2)]) hx hb d_C_occurring_43 hl (k := 4) rfl rfl (by decide) rfl (fun ls hl => ?_)
        refine lv_goto (tgt := 5) hx hb d_C_occurring_46 (by decide) ?_
        exact ih _ _ h hw (lv_sub hl [2, 3, 4, 1, 0] rfl)
set_option maxHeartbeats 4000000 in
set_option maxRecDepth 100000 in
theorem c_C_occurring {l : Launch} {D : va_G} {ca : Nat → ClassId} {tp : Nat} {ad : Nat → Nat} {T_length : Int32} {T_bytes : Nat → Int32} {C_size : Int32} {C_given : Int32} {C_empty : Int32} {C_drafted : Int32} {C_draftedGiven : Int32} {C_block : Nat → Int32} {C_left : Nat → Int32} {C_right : Nat → Int32} {C_pivot : Nat → Int32} {C_positive : Nat → Int32} {C_negative : Nat → Int32} {C_live : Nat → Int32} {C_needed : Nat → Int32} {R_kind : Int32} {R_place : Int32} {R_at : Int32} {R_token : Int32} {R_tokenPlace : Int32} {R_number : Int32} {R_state : Int32} {R_block : Int32} {R_positive : Int32} {R_negative : Int32} {R_left : Int32} {R_right : Int32} {R_pivot : Int32} {L_of : Nat → Int32} {F_cut : Int32} {F_labelledA : Int32} {F_labelledB : Int32} {F_row : Nat → Int64} {A_root : Int32} {A_words : Nat → Int64} {A_known : Nat → Int32} {G_size : Int32} {G_variable : Nat → Int32} {G_low : Nat → Int32} {G_high : Nat → Int32} {G_numberOf : Nat → Int32} {G_nodeOf : Nat → Int32} {G_sides : Nat → Int32} {G_waiting : Nat → Int32} {B_table : Nat → Int64} {B_nextTable : Nat → Int64} {x1 : Int32} {x2 : Int32} {k : Int32 → Prop} (h : p_C_occurring C_size C_block C_positive C_negative x1 x2 k) :
    MTi l y_C_occurring b_C_occurring 5 (some .int) rm_C_occurring D ca tp [.ref (ad 3), .int x1, .int x2] (WB ad ca T_length T_bytes C_size C_given C_empty C_drafted C_draftedGiven C_block C_left C_right C_pivot C_positive C_negative C_live C_needed R_kind R_place R_at R_token R_tokenPlace R_number R_state R_block R_positive R_negative R_left R_right R_pivot L_of F_cut F_labelledA F_labelledB F_row A_root A_words A_known G_size G_variable G_low G_high G_numberOf G_nodeOf G_sides G_waiting B_table B_nextTable)
      (fun r (_ : Unit) => k r)
      (fun (_ : Unit) => WB ad ca T_length T_bytes C_size C_given C_empty C_drafted C_draftedGiven C_block C_left C_right C_pivot C_positive C_negative C_live C_needed R_kind R_place R_at R_token R_tokenPlace R_number R_state R_block R_positive R_negative R_left R_right R_pivot L_of F_cut F_labelledA F_labelledB F_row A_root A_words A_known G_size G_variable G_low G_high G_numberOf G_nodeOf G_sides G_waiting B_table B_nextTable) 0 0 := by
  refine x_entryi (own := R_C) (nm := "occurring") (by decide) rfl rfl (Nat.le_of_ble_eq_true rfl) (fun p e s m below meth c A ls C0 hw hl => ?_)
  have hx := C0.1
  have hb := C0.2.1
  have hl : lv_has ls 5 [(0, .ref (ad 3)), (1, .int x1), (2, .int x2)] := hl
  unfold p_C_occurring at h
  refine lv_iconst (v := 0) hx hb d_C_occurring_0 (by decide) ?_
  refine lv_istore_n (lv' := [(3, .int (0 : Int32)), (0, .ref (ad 3)), (1, .int x1), (2, .int x2)]) hx hb d_C_occurring_1 rfl hl (by decide) rfl (fun ls hl => ?_)
  refine lv_iconst (v := 1) hx hb d_C_occurring_2 (by decide) ?_
  refine lv_istore (lv' := [(4, .int (1 : Int32)), (3, .int (0 : Int32)), (0, .ref (ad 3)), (1, .int x1), (2, .int x2)]) hx hb d_C_occurring_3 hl (by decide) rfl (fun ls hl => ?_)
  obtain ⟨n, h⟩ := h
  refine b_C_occurring_L5 C0 n _ _ h hw (lv_sub hl [2, 3, 4, 1, 0] rfl)
theorem g_C_positiveRest : GY y_C_positiveRest b_C_positiveRest 4 (some .int) 3 := ⟨wm_465, wm_55, by decide +kernel, by decide +kernel, by decide +kernel⟩
def p_C_positiveRest (C_positive : Nat → Int32) (x1 : Int32) (x2 : Int32) (x3 : Int32) (k : Int32 → Prop) : Prop :=
  (vp_in x1 201 ∧ (vp_in x2 201 ∧ (p_B_bitOf x3 (fun (r_3 : Int32) => (k (((C_positive x1.toNatClampNeg) ||| (C_positive x2.toNatClampNeg)) &&& (r_3 ^^^ (-1 : Int32))))))))
abbrev rm_C_positiveRest : Room := { frames := 1, cells := 0, slots := 0, locals := 20 }
set_option maxHeartbeats 4000000 in
set_option maxRecDepth 100000 in
theorem c_C_positiveRest {l : Launch} {D : va_G} {ca : Nat → ClassId} {tp : Nat} {ad : Nat → Nat} {T_length : Int32} {T_bytes : Nat → Int32} {C_size : Int32} {C_given : Int32} {C_empty : Int32} {C_drafted : Int32} {C_draftedGiven : Int32} {C_block : Nat → Int32} {C_left : Nat → Int32} {C_right : Nat → Int32} {C_pivot : Nat → Int32} {C_positive : Nat → Int32} {C_negative : Nat → Int32} {C_live : Nat → Int32} {C_needed : Nat → Int32} {R_kind : Int32} {R_place : Int32} {R_at : Int32} {R_token : Int32} {R_tokenPlace : Int32} {R_number : Int32} {R_state : Int32} {R_block : Int32} {R_positive : Int32} {R_negative : Int32} {R_left : Int32} {R_right : Int32} {R_pivot : Int32} {L_of : Nat → Int32} {F_cut : Int32} {F_labelledA : Int32} {F_labelledB : Int32} {F_row : Nat → Int64} {A_root : Int32} {A_words : Nat → Int64} {A_known : Nat → Int32} {G_size : Int32} {G_variable : Nat → Int32} {G_low : Nat → Int32} {G_high : Nat → Int32} {G_numberOf : Nat → Int32} {G_nodeOf : Nat → Int32} {G_sides : Nat → Int32} {G_waiting : Nat → Int32} {B_table : Nat → Int64} {B_nextTable : Nat → Int64} {x1 : Int32} {x2 : Int32} {x3 : Int32} {k : Int32 → Prop} (h : p_C_positiveRest C_positive x1 x2 x3 k) :
    MTi l y_C_positiveRest b_C_positiveRest 4 (some .int) rm_C_positiveRest D ca tp [.ref (ad 3), .int x1, .int x2, .int x3] (WB ad ca T_length T_bytes C_size C_given C_empty C_drafted C_draftedGiven C_block C_left C_right C_pivot C_positive C_negative C_live C_needed R_kind R_place R_at R_token R_tokenPlace R_number R_state R_block R_positive R_negative R_left R_right R_pivot L_of F_cut F_labelledA F_labelledB F_row A_root A_words A_known G_size G_variable G_low G_high G_numberOf G_nodeOf G_sides G_waiting B_table B_nextTable)
      (fun r (_ : Unit) => k r)
      (fun (_ : Unit) => WB ad ca T_length T_bytes C_size C_given C_empty C_drafted C_draftedGiven C_block C_left C_right C_pivot C_positive C_negative C_live C_needed R_kind R_place R_at R_token R_tokenPlace R_number R_state R_block R_positive R_negative R_left R_right R_pivot L_of F_cut F_labelledA F_labelledB F_row A_root A_words A_known G_size G_variable G_low G_high G_numberOf G_nodeOf G_sides G_waiting B_table B_nextTable) 0 0 := by
  refine x_entryi (own := R_C) (nm := "positiveRest") (by decide) rfl rfl (Nat.le_of_ble_eq_true rfl) (fun p e s m below meth c A ls C0 hw hl => ?_)
  have hx := C0.1
  have hb := C0.2.1
  have hl : lv_has ls 4 [(0, .ref (ad 3)), (1, .int x1), (2, .int x2), (3, .int x3)] := hl
  unfold p_C_positiveRest at h
  refine lv_aload_n hx hb d_C_positiveRest_0 rfl (lv_at hl 0 rfl) ?_
  refine x_get C0 hw 3 rfl rfl i_C 4 (by decide) wm_107 rfl rfl d_C_positiveRest_1 ?_
  refine lv_iload_n hx hb d_C_positiveRest_4 rfl (lv_at hl 1 rfl) ?_
  obtain ⟨hi_1, h⟩ := h
  refine x_iald C0 hw 8 rfl hi_1 d_C_positiveRest_5 ?_
  refine lv_aload_n hx hb d_C_positiveRest_6 rfl (lv_at hl 0 rfl) ?_
  refine x_get C0 hw 3 rfl rfl i_C 4 (by decide) wm_107 rfl rfl d_C_positiveRest_7 ?_
  refine lv_iload_n hx hb d_C_positiveRest_10 rfl (lv_at hl 2 rfl) ?_
  obtain ⟨hi_2, h⟩ := h
  refine x_iald C0 hw 8 rfl hi_2 d_C_positiveRest_11 ?_
  refine lv_ior hx hb d_C_positiveRest_12 ?_
  refine lv_iload_n hx hb d_C_positiveRest_13 rfl (lv_at hl 3 rfl) ?_
  refine x_callSNi C0 hw hl (c_B_bitOf h) g_B_bitOf wm_455 wm_456 (As := [.int x3]) (rest := [.int ((C_positive x1.toNatClampNeg) ||| (C_positive x2.toNatClampNeg))]) rfl rfl (Nat.le_of_ble_eq_true rfl) ⟨rfl, rfl⟩ ⟨Nat.le_of_ble_eq_true rfl, Nat.le_of_ble_eq_true rfl⟩ ⟨Nat.le_of_ble_eq_true rfl, Nat.le_of_ble_eq_true rfl⟩ d_C_positiveRest_14 (fun r_3 u H locs h hw => ?_)
  refine lv_iconst (v := -1) hx hb d_C_positiveRest_17 (by decide) ?_
  refine lv_ixor hx hb d_C_positiveRest_18 ?_
  refine lv_iand hx hb d_C_positiveRest_19 ?_
  exact x_iret C0 hw () h rfl d_C_positiveRest_20
theorem g_C_negativeRest : GY y_C_negativeRest b_C_negativeRest 4 (some .int) 3 := ⟨wm_469, wm_55, by decide +kernel, by decide +kernel, by decide +kernel⟩
def p_C_negativeRest (C_negative : Nat → Int32) (x1 : Int32) (x2 : Int32) (x3 : Int32) (k : Int32 → Prop) : Prop :=
  (vp_in x1 201 ∧ (vp_in x2 201 ∧ (p_B_bitOf x3 (fun (r_3 : Int32) => (k (((C_negative x1.toNatClampNeg) ||| (C_negative x2.toNatClampNeg)) &&& (r_3 ^^^ (-1 : Int32))))))))
abbrev rm_C_negativeRest : Room := { frames := 1, cells := 0, slots := 0, locals := 20 }
set_option maxHeartbeats 4000000 in
set_option maxRecDepth 100000 in
theorem c_C_negativeRest {l : Launch} {D : va_G} {ca : Nat → ClassId} {tp : Nat} {ad : Nat → Nat} {T_length : Int32} {T_bytes : Nat → Int32} {C_size : Int32} {C_given : Int32} {C_empty : Int32} {C_drafted : Int32} {C_draftedGiven : Int32} {C_block : Nat → Int32} {C_left : Nat → Int32} {C_right : Nat → Int32} {C_pivot : Nat → Int32} {C_positive : Nat → Int32} {C_negative : Nat → Int32} {C_live : Nat → Int32} {C_needed : Nat → Int32} {R_kind : Int32} {R_place : Int32} {R_at : Int32} {R_token : Int32} {R_tokenPlace : Int32} {R_number : Int32} {R_state : Int32} {R_block : Int32} {R_positive : Int32} {R_negative : Int32} {R_left : Int32} {R_right : Int32} {R_pivot : Int32} {L_of : Nat → Int32} {F_cut : Int32} {F_labelledA : Int32} {F_labelledB : Int32} {F_row : Nat → Int64} {A_root : Int32} {A_words : Nat → Int64} {A_known : Nat → Int32} {G_size : Int32} {G_variable : Nat → Int32} {G_low : Nat → Int32} {G_high : Nat → Int32} {G_numberOf : Nat → Int32} {G_nodeOf : Nat → Int32} {G_sides : Nat → Int32} {G_waiting : Nat → Int32} {B_table : Nat → Int64} {B_nextTable : Nat → Int64} {x1 : Int32} {x2 : Int32} {x3 : Int32} {k : Int32 → Prop} (h : p_C_negativeRest C_negative x1 x2 x3 k) :
    MTi l y_C_negativeRest b_C_negativeRest 4 (some .int) rm_C_negativeRest D ca tp [.ref (ad 3), .int x1, .int x2, .int x3] (WB ad ca T_length T_bytes C_size C_given C_empty C_drafted C_draftedGiven C_block C_left C_right C_pivot C_positive C_negative C_live C_needed R_kind R_place R_at R_token R_tokenPlace R_number R_state R_block R_positive R_negative R_left R_right R_pivot L_of F_cut F_labelledA F_labelledB F_row A_root A_words A_known G_size G_variable G_low G_high G_numberOf G_nodeOf G_sides G_waiting B_table B_nextTable)
      (fun r (_ : Unit) => k r)
      (fun (_ : Unit) => WB ad ca T_length T_bytes C_size C_given C_empty C_drafted C_draftedGiven C_block C_left C_right C_pivot C_positive C_negative C_live C_needed R_kind R_place R_at R_token R_tokenPlace R_number R_state R_block R_positive R_negative R_left R_right R_pivot L_of F_cut F_labelledA F_labelledB F_row A_root A_words A_known G_size G_variable G_low G_high G_numberOf G_nodeOf G_sides G_waiting B_table B_nextTable) 0 0 := by
  refine x_entryi (own := R_C) (nm := "negativeRest") (by decide) rfl rfl (Nat.le_of_ble_eq_true rfl) (fun p e s m below meth c A ls C0 hw hl => ?_)
  have hx := C0.1
  have hb := C0.2.1
  have hl : lv_has ls 4 [(0, .ref (ad 3)), (1, .int x1), (2, .int x2), (3, .int x3)] := hl
  unfold p_C_negativeRest at h
  refine lv_aload_n hx hb d_C_negativeRest_0 rfl (lv_at hl 0 rfl) ?_
  refine x_get C0 hw 3 rfl rfl i_C 5 (by decide) wm_110 rfl rfl d_C_negativeRest_1 ?_
  refine lv_iload_n hx hb d_C_negativeRest_4 rfl (lv_at hl 1 rfl) ?_
  obtain ⟨hi_1, h⟩ := h
  refine x_iald C0 hw 9 rfl hi_1 d_C_negativeRest_5 ?_
  refine lv_aload_n hx hb d_C_negativeRest_6 rfl (lv_at hl 0 rfl) ?_
  refine x_get C0 hw 3 rfl rfl i_C 5 (by decide) wm_110 rfl rfl d_C_negativeRest_7 ?_
  refine lv_iload_n hx hb d_C_negativeRest_10 rfl (lv_at hl 2 rfl) ?_
  obtain ⟨hi_2, h⟩ := h
  refine x_iald C0 hw 9 rfl hi_2 d_C_negativeRest_11 ?_
  refine lv_ior hx hb d_C_negativeRest_12 ?_
  refine lv_iload_n hx hb d_C_negativeRest_13 rfl (lv_at hl 3 rfl) ?_
  refine x_callSNi C0 hw hl (c_B_bitOf h) g_B_bitOf wm_455 wm_456 (As := [.int x3]) (rest := [.int ((C_negative x1.toNatClampNeg) ||| (C_negative x2.toNatClampNeg))]) rfl rfl (Nat.le_of_ble_eq_true rfl) ⟨rfl, rfl⟩ ⟨Nat.le_of_ble_eq_true rfl, Nat.le_of_ble_eq_true rfl⟩ ⟨Nat.le_of_ble_eq_true rfl, Nat.le_of_ble_eq_true rfl⟩ d_C_negativeRest_14 (fun r_3 u H locs h hw => ?_)
  refine lv_iconst (v := -1) hx hb d_C_negativeRest_17 (by decide) ?_
  refine lv_ixor hx hb d_C_negativeRest_18 ?_
  refine lv_iand hx hb d_C_negativeRest_19 ?_
  exact x_iret C0 hw () h rfl d_C_negativeRest_20
theorem g_C_resolves : GY y_C_resolves b_C_resolves 4 (some .boolean) 3 := ⟨wm_454, wm_55, by decide +kernel, by decide +kernel, by decide +kernel⟩
def p_C_resolves (C_positive : Nat → Int32) (C_negative : Nat → Int32) (x1 : Int32) (x2 : Int32) (x3 : Int32) (k : Int32 → Prop) : Prop :=
  (vp_in x1 201 ∧ (p_B_bitOf x3 (fun (r_2 : Int32) => ((((C_positive x1.toNatClampNeg) &&& r_2) = 0 → (k (0 : Int32))) ∧ (¬ ((C_positive x1.toNatClampNeg) &&& r_2) = 0 → (vp_in x2 201 ∧ (p_B_bitOf x3 (fun (r_5 : Int32) => ((((C_negative x2.toNatClampNeg) &&& r_5) = 0 → (k (0 : Int32))) ∧ (¬ ((C_negative x2.toNatClampNeg) &&& r_5) = 0 → (k (1 : Int32))))))))))))
abbrev rm_C_resolves : Room := { frames := 1, cells := 0, slots := 0, locals := 20 }
set_option maxHeartbeats 4000000 in
set_option maxRecDepth 100000 in
theorem c_C_resolves {l : Launch} {D : va_G} {ca : Nat → ClassId} {tp : Nat} {ad : Nat → Nat} {T_length : Int32} {T_bytes : Nat → Int32} {C_size : Int32} {C_given : Int32} {C_empty : Int32} {C_drafted : Int32} {C_draftedGiven : Int32} {C_block : Nat → Int32} {C_left : Nat → Int32} {C_right : Nat → Int32} {C_pivot : Nat → Int32} {C_positive : Nat → Int32} {C_negative : Nat → Int32} {C_live : Nat → Int32} {C_needed : Nat → Int32} {R_kind : Int32} {R_place : Int32} {R_at : Int32} {R_token : Int32} {R_tokenPlace : Int32} {R_number : Int32} {R_state : Int32} {R_block : Int32} {R_positive : Int32} {R_negative : Int32} {R_left : Int32} {R_right : Int32} {R_pivot : Int32} {L_of : Nat → Int32} {F_cut : Int32} {F_labelledA : Int32} {F_labelledB : Int32} {F_row : Nat → Int64} {A_root : Int32} {A_words : Nat → Int64} {A_known : Nat → Int32} {G_size : Int32} {G_variable : Nat → Int32} {G_low : Nat → Int32} {G_high : Nat → Int32} {G_numberOf : Nat → Int32} {G_nodeOf : Nat → Int32} {G_sides : Nat → Int32} {G_waiting : Nat → Int32} {B_table : Nat → Int64} {B_nextTable : Nat → Int64} {x1 : Int32} {x2 : Int32} {x3 : Int32} {k : Int32 → Prop} (h : p_C_resolves C_positive C_negative x1 x2 x3 k) :
    MTi l y_C_resolves b_C_resolves 4 (some .boolean) rm_C_resolves D ca tp [.ref (ad 3), .int x1, .int x2, .int x3] (WB ad ca T_length T_bytes C_size C_given C_empty C_drafted C_draftedGiven C_block C_left C_right C_pivot C_positive C_negative C_live C_needed R_kind R_place R_at R_token R_tokenPlace R_number R_state R_block R_positive R_negative R_left R_right R_pivot L_of F_cut F_labelledA F_labelledB F_row A_root A_words A_known G_size G_variable G_low G_high G_numberOf G_nodeOf G_sides G_waiting B_table B_nextTable)
      (fun r (_ : Unit) => k r)
      (fun (_ : Unit) => WB ad ca T_length T_bytes C_size C_given C_empty C_drafted C_draftedGiven C_block C_left C_right C_pivot C_positive C_negative C_live C_needed R_kind R_place R_at R_token R_tokenPlace R_number R_state R_block R_positive R_negative R_left R_right R_pivot L_of F_cut F_labelledA F_labelledB F_row A_root A_words A_known G_size G_variable G_low G_high G_numberOf G_nodeOf G_sides G_waiting B_table B_nextTable) 0 0 := by
  refine x_entryi (own := R_C) (nm := "resolves") (by decide) rfl rfl (Nat.le_of_ble_eq_true rfl) (fun p e s m below meth c A ls C0 hw hl => ?_)
  have hx := C0.1
  have hb := C0.2.1
  have hl : lv_has ls 4 [(0, .ref (ad 3)), (1, .int x1), (2, .int x2), (3, .int x3)] := hl
  unfold p_C_resolves at h
  refine lv_aload_n hx hb d_C_resolves_0 rfl (lv_at hl 0 rfl) ?_
  refine x_get C0 hw 3 rfl rfl i_C 4 (by decide) wm_107 rfl rfl d_C_resolves_1 ?_
  refine lv_iload_n hx hb d_C_resolves_4 rfl (lv_at hl 1 rfl) ?_
  obtain ⟨hi_1, h⟩ := h
  refine x_iald C0 hw 8 rfl hi_1 d_C_resolves_5 ?_
  refine lv_iload_n hx hb d_C_resolves_6 rfl (lv_at hl 3 rfl) ?_
  refine x_callSNi C0 hw hl (c_B_bitOf h) g_B_bitOf wm_455 wm_456 (As := [.int x3]) (rest := [.int (C_positive x1.toNatClampNeg)]) rfl rfl (Nat.le_of_ble_eq_true rfl) ⟨rfl, rfl⟩ ⟨Nat.le_of_ble_eq_true rfl, Nat.le_of_ble_eq_true rfl⟩ ⟨Nat.le_of_ble_eq_true rfl, Nat.le_of_ble_eq_true rfl⟩ d_C_resolves_7 (fun r_2 u H locs h hw => ?_)
  refine lv_iand hx hb d_C_resolves_10 ?_
  refine lv_if_eq (tgt := 32) hx hb d_C_resolves_11 (by decide) (fun c_3 => ?_) (fun c_3 => ?_)
  · have h := h.1 c_3
    refine lv_iconst (v := 0) hx hb d_C_resolves_32 (by decide) ?_
    exact x_zret C0 hw rfl () h rfl d_C_resolves_33
  · have h := h.2 c_3
    refine lv_aload_n hx hb d_C_resolves_14 rfl (lv_at hl 0 rfl) ?_
    refine x_get C0 hw 3 rfl rfl i_C 5 (by decide) wm_110 rfl rfl d_C_resolves_15 ?_
    refine lv_iload_n hx hb d_C_resolves_18 rfl (lv_at hl 2 rfl) ?_
    obtain ⟨hi_4, h⟩ := h
    refine x_iald C0 hw 9 rfl hi_4 d_C_resolves_19 ?_
    refine lv_iload_n hx hb d_C_resolves_20 rfl (lv_at hl 3 rfl) ?_
    refine x_callSNi C0 hw hl (c_B_bitOf h) g_B_bitOf wm_455 wm_456 (As := [.int x3]) (rest := [.int (C_negative x2.toNatClampNeg)]) rfl rfl (Nat.le_of_ble_eq_true rfl) ⟨rfl, rfl⟩ ⟨Nat.le_of_ble_eq_true rfl, Nat.le_of_ble_eq_true rfl⟩ ⟨Nat.le_of_ble_eq_true rfl, Nat.le_of_ble_eq_true rfl⟩ d_C_resolves_21 (fun r_5 u H locs h hw => ?_)
    refine lv_iand hx hb d_C_resolves_24 ?_
    refine lv_if_eq (tgt := 32) hx hb d_C_resolves_25 (by decide) (fun c_6 => ?_) (fun c_6 => ?_)
    · have h := h.1 c_6
      refine lv_iconst (v := 0) hx hb d_C_resolves_32 (by decide) ?_
      exact x_zret C0 hw rfl () h rfl d_C_resolves_33
    · have h := h.2 c_6
      refine lv_iconst (v := 1) hx hb d_C_resolves_28 (by decide) ?_
      refine lv_goto (tgt := 33) hx hb d_C_resolves_29 (by decide) ?_
      exact x_zret C0 hw rfl () h rfl d_C_resolves_33
theorem g_C_clashes : GY y_C_clashes b_C_clashes 4 (some .boolean) 3 := ⟨wm_461, wm_55, by decide +kernel, by decide +kernel, by decide +kernel⟩
def p_C_clashes (C_positive : Nat → Int32) (C_negative : Nat → Int32) (x1 : Int32) (x2 : Int32) (x3 : Int32) (k : Int32 → Prop) : Prop :=
  (p_C_positiveRest C_positive x1 x2 x3 (fun (r_1 : Int32) => (p_C_negativeRest C_negative x1 x2 x3 (fun (r_2 : Int32) => (((r_1 &&& r_2) = 0 → (k (0 : Int32))) ∧ (¬ (r_1 &&& r_2) = 0 → (k (1 : Int32))))))))
abbrev rm_C_clashes : Room := { frames := 2, cells := 0, slots := 0, locals := 43 }
set_option maxHeartbeats 4000000 in
set_option maxRecDepth 100000 in
theorem c_C_clashes {l : Launch} {D : va_G} {ca : Nat → ClassId} {tp : Nat} {ad : Nat → Nat} {T_length : Int32} {T_bytes : Nat → Int32} {C_size : Int32} {C_given : Int32} {C_empty : Int32} {C_drafted : Int32} {C_draftedGiven : Int32} {C_block : Nat → Int32} {C_left : Nat → Int32} {C_right : Nat → Int32} {C_pivot : Nat → Int32} {C_positive : Nat → Int32} {C_negative : Nat → Int32} {C_live : Nat → Int32} {C_needed : Nat → Int32} {R_kind : Int32} {R_place : Int32} {R_at : Int32} {R_token : Int32} {R_tokenPlace : Int32} {R_number : Int32} {R_state : Int32} {R_block : Int32} {R_positive : Int32} {R_negative : Int32} {R_left : Int32} {R_right : Int32} {R_pivot : Int32} {L_of : Nat → Int32} {F_cut : Int32} {F_labelledA : Int32} {F_labelledB : Int32} {F_row : Nat → Int64} {A_root : Int32} {A_words : Nat → Int64} {A_known : Nat → Int32} {G_size : Int32} {G_variable : Nat → Int32} {G_low : Nat → Int32} {G_high : Nat → Int32} {G_numberOf : Nat → Int32} {G_nodeOf : Nat → Int32} {G_sides : Nat → Int32} {G_waiting : Nat → Int32} {B_table : Nat → Int64} {B_nextTable : Nat → Int64} {x1 : Int32} {x2 : Int32} {x3 : Int32} {k : Int32 → Prop} (h : p_C_clashes C_positive C_negative x1 x2 x3 k) :
    MTi l y_C_clashes b_C_clashes 4 (some .boolean) rm_C_clashes D ca tp [.ref (ad 3), .int x1, .int x2, .int x3] (WB ad ca T_length T_bytes C_size C_given C_empty C_drafted C_draftedGiven C_block C_left C_right C_pivot C_positive C_negative C_live C_needed R_kind R_place R_at R_token R_tokenPlace R_number R_state R_block R_positive R_negative R_left R_right R_pivot L_of F_cut F_labelledA F_labelledB F_row A_root A_words A_known G_size G_variable G_low G_high G_numberOf G_nodeOf G_sides G_waiting B_table B_nextTable)
      (fun r (_ : Unit) => k r)
      (fun (_ : Unit) => WB ad ca T_length T_bytes C_size C_given C_empty C_drafted C_draftedGiven C_block C_left C_right C_pivot C_positive C_negative C_live C_needed R_kind R_place R_at R_token R_tokenPlace R_number R_state R_block R_positive R_negative R_left R_right R_pivot L_of F_cut F_labelledA F_labelledB F_row A_root A_words A_known G_size G_variable G_low G_high G_numberOf G_nodeOf G_sides G_waiting B_table B_nextTable) 0 0 := by
  refine x_entryi (own := R_C) (nm := "clashes") (by decide) rfl rfl (Nat.le_of_ble_eq_true rfl) (fun p e s m below meth c A ls C0 hw hl => ?_)
  have hx := C0.1
  have hb := C0.2.1
  have hl : lv_has ls 4 [(0, .ref (ad 3)), (1, .int x1), (2, .int x2), (3, .int x3)] := hl
  unfold p_C_clashes at h
  refine lv_aload_n hx hb d_C_clashes_0 rfl (lv_at hl 0 rfl) ?_
  refine lv_iload_n hx hb d_C_clashes_1 rfl (lv_at hl 1 rfl) ?_
  refine lv_iload_n hx hb d_C_clashes_2 rfl (lv_at hl 2 rfl) ?_
  refine lv_iload_n hx hb d_C_clashes_3 rfl (lv_at hl 3 rfl) ?_
  refine x_callVi C0 hw hl (c_C_positiveRest h) g_C_positiveRest wm_462 ⟨wm_16, wm_464⟩ 3 rfl rfl rfl (As := [.int x1, .int x2, .int x3]) (rest := []) rfl rfl (Nat.le_of_ble_eq_true rfl) ⟨rfl, rfl⟩ ⟨Nat.le_of_ble_eq_true rfl, Nat.le_of_ble_eq_true rfl⟩ ⟨Nat.le_of_ble_eq_true rfl, Nat.le_of_ble_eq_true rfl⟩ d_C_clashes_4 (fun r_1 u H locs h hw => ?_)
  refine lv_aload_n hx hb d_C_clashes_7 rfl (lv_at hl 0 rfl) ?_
  refine lv_iload_n hx hb d_C_clashes_8 rfl (lv_at hl 1 rfl) ?_
  refine lv_iload_n hx hb d_C_clashes_9 rfl (lv_at hl 2 rfl) ?_
  refine lv_iload_n hx hb d_C_clashes_10 rfl (lv_at hl 3 rfl) ?_
  refine x_callVi C0 hw hl (c_C_negativeRest h) g_C_negativeRest wm_466 ⟨wm_17, wm_468⟩ 3 rfl rfl rfl (As := [.int x1, .int x2, .int x3]) (rest := [.int r_1]) rfl rfl (Nat.le_of_ble_eq_true rfl) ⟨rfl, rfl⟩ ⟨Nat.le_of_ble_eq_true rfl, Nat.le_of_ble_eq_true rfl⟩ ⟨Nat.le_of_ble_eq_true rfl, Nat.le_of_ble_eq_true rfl⟩ d_C_clashes_11 (fun r_2 u H locs h hw => ?_)
  refine lv_iand hx hb d_C_clashes_14 ?_
  refine lv_if_eq (tgt := 22) hx hb d_C_clashes_15 (by decide) (fun c_3 => ?_) (fun c_3 => ?_)
  · have h := h.1 c_3
    refine lv_iconst (v := 0) hx hb d_C_clashes_22 (by decide) ?_
    exact x_zret C0 hw rfl () h rfl d_C_clashes_23
  · have h := h.2 c_3
    refine lv_iconst (v := 1) hx hb d_C_clashes_18 (by decide) ?_
    refine lv_goto (tgt := 23) hx hb d_C_clashes_19 (by decide) ?_
    exact x_zret C0 hw rfl () h rfl d_C_clashes_23
theorem g_C_draft : GY y_C_draft b_C_draft 3 none 2 := ⟨wm_423, wm_55, by decide +kernel, by decide +kernel, by decide +kernel⟩
def p_C_draft (C_drafted : Int32) (C_positive : Nat → Int32) (C_negative : Nat → Int32) (C_live : Nat → Int32) (x1 : Int32) (x2 : Int32) (k : Int32 → (Nat → Int32) → (Nat → Int32) → (Nat → Int32) → Prop) : Prop :=
  (vp_in (C_drafted + (1 : Int32)) 201 ∧ (k (C_drafted + (1 : Int32)) (upd C_positive (C_drafted + (1 : Int32)).toNatClampNeg x1) (upd C_negative (C_drafted + (1 : Int32)).toNatClampNeg x2) (upd C_live (C_drafted + (1 : Int32)).toNatClampNeg (1 : Int32))))
abbrev rm_C_draft : Room := { frames := 0, cells := 0, slots := 0, locals := 0 }
set_option maxHeartbeats 4000000 in
set_option maxRecDepth 100000 in
theorem c_C_draft {l : Launch} {D : va_G} {ca : Nat → ClassId} {tp : Nat} {ad : Nat → Nat} {T_length : Int32} {T_bytes : Nat → Int32} {C_size : Int32} {C_given : Int32} {C_empty : Int32} {C_drafted : Int32} {C_draftedGiven : Int32} {C_block : Nat → Int32} {C_left : Nat → Int32} {C_right : Nat → Int32} {C_pivot : Nat → Int32} {C_positive : Nat → Int32} {C_negative : Nat → Int32} {C_live : Nat → Int32} {C_needed : Nat → Int32} {R_kind : Int32} {R_place : Int32} {R_at : Int32} {R_token : Int32} {R_tokenPlace : Int32} {R_number : Int32} {R_state : Int32} {R_block : Int32} {R_positive : Int32} {R_negative : Int32} {R_left : Int32} {R_right : Int32} {R_pivot : Int32} {L_of : Nat → Int32} {F_cut : Int32} {F_labelledA : Int32} {F_labelledB : Int32} {F_row : Nat → Int64} {A_root : Int32} {A_words : Nat → Int64} {A_known : Nat → Int32} {G_size : Int32} {G_variable : Nat → Int32} {G_low : Nat → Int32} {G_high : Nat → Int32} {G_numberOf : Nat → Int32} {G_nodeOf : Nat → Int32} {G_sides : Nat → Int32} {G_waiting : Nat → Int32} {B_table : Nat → Int64} {B_nextTable : Nat → Int64} {x1 : Int32} {x2 : Int32} {k : Int32 → (Nat → Int32) → (Nat → Int32) → (Nat → Int32) → Prop} (h : p_C_draft C_drafted C_positive C_negative C_live x1 x2 k) :
    MTv l y_C_draft b_C_draft 3 none rm_C_draft D ca tp [.ref (ad 3), .int x1, .int x2] (WB ad ca T_length T_bytes C_size C_given C_empty C_drafted C_draftedGiven C_block C_left C_right C_pivot C_positive C_negative C_live C_needed R_kind R_place R_at R_token R_tokenPlace R_number R_state R_block R_positive R_negative R_left R_right R_pivot L_of F_cut F_labelledA F_labelledB F_row A_root A_words A_known G_size G_variable G_low G_high G_numberOf G_nodeOf G_sides G_waiting B_table B_nextTable)
      (fun (u : Int32 × (Nat → Int32) × (Nat → Int32) × (Nat → Int32)) => k u.1 u.2.1 u.2.2.1 u.2.2.2)
      (fun (u : Int32 × (Nat → Int32) × (Nat → Int32) × (Nat → Int32)) => WB ad ca T_length T_bytes C_size C_given C_empty u.1 C_draftedGiven C_block C_left C_right C_pivot u.2.1 u.2.2.1 u.2.2.2 C_needed R_kind R_place R_at R_token R_tokenPlace R_number R_state R_block R_positive R_negative R_left R_right R_pivot L_of F_cut F_labelledA F_labelledB F_row A_root A_words A_known G_size G_variable G_low G_high G_numberOf G_nodeOf G_sides G_waiting B_table B_nextTable) 0 0 := by
  refine x_entryv (own := R_C) (nm := "draft") (by decide) rfl rfl (Nat.le_of_ble_eq_true rfl) (fun p e s m below meth c A ls C0 hw hl => ?_)
  have hx := C0.1
  have hb := C0.2.1
  have hl : lv_has ls 3 [(0, .ref (ad 3)), (1, .int x1), (2, .int x2)] := hl
  unfold p_C_draft at h
  refine lv_aload_n hx hb d_C_draft_0 rfl (lv_at hl 0 rfl) ?_
  refine lv_dup hx hb d_C_draft_1 rfl ?_
  refine x_get C0 hw 3 rfl rfl i_C 11 (by decide) wm_126 rfl rfl d_C_draft_2 ?_
  refine lv_iconst (v := 1) hx hb d_C_draft_5 (by decide) ?_
  refine lv_iadd hx hb d_C_draft_6 ?_
  refine x_put C0 hw 3 rfl rfl i_C tk_C n_C 11 (by decide) wm_126 rfl rfl rfl rfl (Nat.le_of_ble_eq_true rfl) (ws' := WB ad ca T_length T_bytes C_size C_given C_empty (C_drafted + (1 : Int32)) C_draftedGiven C_block C_left C_right C_pivot C_positive C_negative C_live C_needed R_kind R_place R_at R_token R_tokenPlace R_number R_state R_block R_positive R_negative R_left R_right R_pivot L_of F_cut F_labelledA F_labelledB F_row A_root A_words A_known G_size G_variable G_low G_high G_numberOf G_nodeOf G_sides G_waiting B_table B_nextTable) rfl d_C_draft_7 (fun H locs hw => ?_)
  refine lv_aload_n hx hb d_C_draft_10 rfl (lv_at hl 0 rfl) ?_
  refine x_get C0 hw 3 rfl rfl i_C 4 (by decide) wm_107 rfl rfl d_C_draft_11 ?_
  refine lv_aload_n hx hb d_C_draft_14 rfl (lv_at hl 0 rfl) ?_
  refine x_get C0 hw 3 rfl rfl i_C 11 (by decide) wm_126 rfl rfl d_C_draft_15 ?_
  refine lv_iload_n hx hb d_C_draft_18 rfl (lv_at hl 1 rfl) ?_
  obtain ⟨hi_1, h⟩ := h
  refine x_iast C0 hw 8 rfl hi_1 (ws' := WB ad ca T_length T_bytes C_size C_given C_empty (C_drafted + (1 : Int32)) C_draftedGiven C_block C_left C_right C_pivot (upd C_positive (C_drafted + (1 : Int32)).toNatClampNeg x1) C_negative C_live C_needed R_kind R_place R_at R_token R_tokenPlace R_number R_state R_block R_positive R_negative R_left R_right R_pivot L_of F_cut F_labelledA F_labelledB F_row A_root A_words A_known G_size G_variable G_low G_high G_numberOf G_nodeOf G_sides G_waiting B_table B_nextTable) rfl d_C_draft_19 (fun H locs hw => ?_)
  refine lv_aload_n hx hb d_C_draft_20 rfl (lv_at hl 0 rfl) ?_
  refine x_get C0 hw 3 rfl rfl i_C 5 (by decide) wm_110 rfl rfl d_C_draft_21 ?_
  refine lv_aload_n hx hb d_C_draft_24 rfl (lv_at hl 0 rfl) ?_
  refine x_get C0 hw 3 rfl rfl i_C 11 (by decide) wm_126 rfl rfl d_C_draft_25 ?_
  refine lv_iload_n hx hb d_C_draft_28 rfl (lv_at hl 2 rfl) ?_
  refine x_iast C0 hw 9 rfl hi_1 (ws' := WB ad ca T_length T_bytes C_size C_given C_empty (C_drafted + (1 : Int32)) C_draftedGiven C_block C_left C_right C_pivot (upd C_positive (C_drafted + (1 : Int32)).toNatClampNeg x1) (upd C_negative (C_drafted + (1 : Int32)).toNatClampNeg x2) C_live C_needed R_kind R_place R_at R_token R_tokenPlace R_number R_state R_block R_positive R_negative R_left R_right R_pivot L_of F_cut F_labelledA F_labelledB F_row A_root A_words A_known G_size G_variable G_low G_high G_numberOf G_nodeOf G_sides G_waiting B_table B_nextTable) rfl d_C_draft_29 (fun H locs hw => ?_)
  refine lv_aload_n hx hb d_C_draft_30 rfl (lv_at hl 0 rfl) ?_
  refine x_get C0 hw 3 rfl rfl i_C 6 (by decide) wm_113 rfl rfl d_C_draft_31 ?_
  refine lv_aload_n hx hb d_C_draft_34 rfl (lv_at hl 0 rfl) ?_
  refine x_get C0 hw 3 rfl rfl i_C 11 (by decide) wm_126 rfl rfl d_C_draft_35 ?_
  refine lv_iconst (v := 1) hx hb d_C_draft_38 (by decide) ?_
  refine x_zast C0 hw 10 rfl hi_1 (ws' := WB ad ca T_length T_bytes C_size C_given C_empty (C_drafted + (1 : Int32)) C_draftedGiven C_block C_left C_right C_pivot (upd C_positive (C_drafted + (1 : Int32)).toNatClampNeg x1) (upd C_negative (C_drafted + (1 : Int32)).toNatClampNeg x2) (upd C_live (C_drafted + (1 : Int32)).toNatClampNeg (1 : Int32)) C_needed R_kind R_place R_at R_token R_tokenPlace R_number R_state R_block R_positive R_negative R_left R_right R_pivot L_of F_cut F_labelledA F_labelledB F_row A_root A_words A_known G_size G_variable G_low G_high G_numberOf G_nodeOf G_sides G_waiting B_table B_nextTable) rfl d_C_draft_39 (fun H locs hw => ?_)
  exact x_vret C0 hw ((C_drafted + (1 : Int32)), (upd C_positive (C_drafted + (1 : Int32)).toNatClampNeg x1), (upd C_negative (C_drafted + (1 : Int32)).toNatClampNeg x2), (upd C_live (C_drafted + (1 : Int32)).toNatClampNeg (1 : Int32))) h rfl d_C_draft_40
theorem g_C_draftGiven : GY y_C_draftGiven b_C_draftGiven 4 none 3 := ⟨wm_418, wm_55, by decide +kernel, by decide +kernel, by decide +kernel⟩
def p_C_draftGiven (C_drafted : Int32) (C_draftedGiven : Int32) (C_block : Nat → Int32) (C_left : Nat → Int32) (C_right : Nat → Int32) (C_pivot : Nat → Int32) (C_positive : Nat → Int32) (C_negative : Nat → Int32) (C_live : Nat → Int32) (x1 : Int32) (x2 : Int32) (x3 : Int32) (k : Int32 → Int32 → (Nat → Int32) → (Nat → Int32) → (Nat → Int32) → (Nat → Int32) → (Nat → Int32) → (Nat → Int32) → (Nat → Int32) → Prop) : Prop :=
  (p_C_hasRoomForGiven C_drafted C_draftedGiven (fun (r_1 : Int32) => ((r_1 = 0 → (k C_drafted C_draftedGiven C_block C_left C_right C_pivot C_positive C_negative C_live)) ∧ (¬ r_1 = 0 → (p_C_draft C_drafted C_positive C_negative C_live x2 x3 (fun (C_drafted_3 : Int32) (C_positive_4 : Nat → Int32) (C_negative_5 : Nat → Int32) (C_live_6 : Nat → Int32) => (vp_in C_drafted_3 201 ∧ (k C_drafted_3 (C_draftedGiven + (1 : Int32)) (upd C_block C_drafted_3.toNatClampNeg x1) (upd C_left C_drafted_3.toNatClampNeg (0 : Int32)) (upd C_right C_drafted_3.toNatClampNeg (0 : Int32)) (upd C_pivot C_drafted_3.toNatClampNeg (0 : Int32)) C_positive_4 C_negative_5 C_live_6))))))))
abbrev rm_C_draftGiven : Room := { frames := 2, cells := 0, slots := 0, locals := 40 }
set_option maxHeartbeats 4000000 in
set_option maxRecDepth 100000 in
theorem c_C_draftGiven {l : Launch} {D : va_G} {ca : Nat → ClassId} {tp : Nat} {ad : Nat → Nat} {T_length : Int32} {T_bytes : Nat → Int32} {C_size : Int32} {C_given : Int32} {C_empty : Int32} {C_drafted : Int32} {C_draftedGiven : Int32} {C_block : Nat → Int32} {C_left : Nat → Int32} {C_right : Nat → Int32} {C_pivot : Nat → Int32} {C_positive : Nat → Int32} {C_negative : Nat → Int32} {C_live : Nat → Int32} {C_needed : Nat → Int32} {R_kind : Int32} {R_place : Int32} {R_at : Int32} {R_token : Int32} {R_tokenPlace : Int32} {R_number : Int32} {R_state : Int32} {R_block : Int32} {R_positive : Int32} {R_negative : Int32} {R_left : Int32} {R_right : Int32} {R_pivot : Int32} {L_of : Nat → Int32} {F_cut : Int32} {F_labelledA : Int32} {F_labelledB : Int32} {F_row : Nat → Int64} {A_root : Int32} {A_words : Nat → Int64} {A_known : Nat → Int32} {G_size : Int32} {G_variable : Nat → Int32} {G_low : Nat → Int32} {G_high : Nat → Int32} {G_numberOf : Nat → Int32} {G_nodeOf : Nat → Int32} {G_sides : Nat → Int32} {G_waiting : Nat → Int32} {B_table : Nat → Int64} {B_nextTable : Nat → Int64} {x1 : Int32} {x2 : Int32} {x3 : Int32} {k : Int32 → Int32 → (Nat → Int32) → (Nat → Int32) → (Nat → Int32) → (Nat → Int32) → (Nat → Int32) → (Nat → Int32) → (Nat → Int32) → Prop} (h : p_C_draftGiven C_drafted C_draftedGiven C_block C_left C_right C_pivot C_positive C_negative C_live x1 x2 x3 k) :
    MTv l y_C_draftGiven b_C_draftGiven 4 none rm_C_draftGiven D ca tp [.ref (ad 3), .int x1, .int x2, .int x3] (WB ad ca T_length T_bytes C_size C_given C_empty C_drafted C_draftedGiven C_block C_left C_right C_pivot C_positive C_negative C_live C_needed R_kind R_place R_at R_token R_tokenPlace R_number R_state R_block R_positive R_negative R_left R_right R_pivot L_of F_cut F_labelledA F_labelledB F_row A_root A_words A_known G_size G_variable G_low G_high G_numberOf G_nodeOf G_sides G_waiting B_table B_nextTable)
      (fun (u : Int32 × Int32 × (Nat → Int32) × (Nat → Int32) × (Nat → Int32) × (Nat → Int32) × (Nat → Int32) × (Nat → Int32) × (Nat → Int32)) => k u.1 u.2.1 u.2.2.1 u.2.2.2.1 u.2.2.2.2.1 u.2.2.2.2.2.1 u.2.2.2.2.2.2.1 u.2.2.2.2.2.2.2.1 u.2.2.2.2.2.2.2.2)
      (fun (u : Int32 × Int32 × (Nat → Int32) × (Nat → Int32) × (Nat → Int32) × (Nat → Int32) × (Nat → Int32) × (Nat → Int32) × (Nat → Int32)) => WB ad ca T_length T_bytes C_size C_given C_empty u.1 u.2.1 u.2.2.1 u.2.2.2.1 u.2.2.2.2.1 u.2.2.2.2.2.1 u.2.2.2.2.2.2.1 u.2.2.2.2.2.2.2.1 u.2.2.2.2.2.2.2.2 C_needed R_kind R_place R_at R_token R_tokenPlace R_number R_state R_block R_positive R_negative R_left R_right R_pivot L_of F_cut F_labelledA F_labelledB F_row A_root A_words A_known G_size G_variable G_low G_high G_numberOf G_nodeOf G_sides G_waiting B_table B_nextTable) 0 0 := by
  refine x_entryv (own := R_C) (nm := "draftGiven") (by decide) rfl rfl (Nat.le_of_ble_eq_true rfl) (fun p e s m below meth c A ls C0 hw hl => ?_)
  have hx := C0.1
  have hb := C0.2.1
  have hl : lv_has ls 4 [(0, .ref (ad 3)), (1, .int x1), (2, .int x2), (3, .int x3)] := hl
  unfold p_C_draftGiven at h
  refine lv_aload_n hx hb d_C_draftGiven_0 rfl (lv_at hl 0 rfl) ?_
  refine x_callVi C0 hw hl (c_C_hasRoomForGiven h) g_C_hasRoomForGiven wm_419 ⟨wm_392, wm_391⟩ 3 rfl rfl rfl (As := []) (rest := []) rfl rfl (Nat.le_of_ble_eq_true rfl) ⟨rfl, rfl⟩ ⟨Nat.le_of_ble_eq_true rfl, Nat.le_of_ble_eq_true rfl⟩ ⟨Nat.le_of_ble_eq_true rfl, Nat.le_of_ble_eq_true rfl⟩ d_C_draftGiven_1 (fun r_1 u H locs h hw => ?_)
  refine lv_if_eq (tgt := 63) hx hb d_C_draftGiven_4 (by decide) (fun c_2 => ?_) (fun c_2 => ?_)
  · have h := h.1 c_2
    exact x_vret C0 hw (C_drafted, C_draftedGiven, C_block, C_left, C_right, C_pivot, C_positive, C_negative, C_live) h rfl d_C_draftGiven_63
  · have h := h.2 c_2
    refine lv_aload_n hx hb d_C_draftGiven_7 rfl (lv_at hl 0 rfl) ?_
    refine lv_iload_n hx hb d_C_draftGiven_8 rfl (lv_at hl 2 rfl) ?_
    refine lv_iload_n hx hb d_C_draftGiven_9 rfl (lv_at hl 3 rfl) ?_
    refine x_callVv C0 hw hl (c_C_draft h) g_C_draft wm_420 ⟨wm_10, wm_422⟩ 3 rfl rfl rfl (As := [.int x2, .int x3]) (rest := []) rfl rfl (Nat.le_of_ble_eq_true rfl) ⟨rfl, rfl⟩ ⟨Nat.le_of_ble_eq_true rfl, Nat.le_of_ble_eq_true rfl⟩ ⟨Nat.le_of_ble_eq_true rfl, Nat.le_of_ble_eq_true rfl⟩ d_C_draftGiven_10 (fun u H locs h hw => ?_)
    obtain ⟨C_drafted_3, C_positive_4, C_negative_5, C_live_6⟩ := u
    refine lv_aload_n hx hb d_C_draftGiven_13 rfl (lv_at hl 0 rfl) ?_
    refine x_get C0 hw 3 rfl rfl i_C 0 (by decide) wm_95 rfl rfl d_C_draftGiven_14 ?_
    refine lv_aload_n hx hb d_C_draftGiven_17 rfl (lv_at hl 0 rfl) ?_
    refine x_get C0 hw 3 rfl rfl i_C 11 (by decide) wm_126 rfl rfl d_C_draftGiven_18 ?_
    refine lv_iload_n hx hb d_C_draftGiven_21 rfl (lv_at hl 1 rfl) ?_
    obtain ⟨hi_8, h⟩ := h
    refine x_iast C0 hw 4 rfl hi_8 (ws' := WB ad ca T_length T_bytes C_size C_given C_empty C_drafted_3 C_draftedGiven (upd C_block C_drafted_3.toNatClampNeg x1) C_left C_right C_pivot C_positive_4 C_negative_5 C_live_6 C_needed R_kind R_place R_at R_token R_tokenPlace R_number R_state R_block R_positive R_negative R_left R_right R_pivot L_of F_cut F_labelledA F_labelledB F_row A_root A_words A_known G_size G_variable G_low G_high G_numberOf G_nodeOf G_sides G_waiting B_table B_nextTable) rfl d_C_draftGiven_22 (fun H locs hw => ?_)
    refine lv_aload_n hx hb d_C_draftGiven_23 rfl (lv_at hl 0 rfl) ?_
    refine x_get C0 hw 3 rfl rfl i_C 1 (by decide) wm_98 rfl rfl d_C_draftGiven_24 ?_
    refine lv_aload_n hx hb d_C_draftGiven_27 rfl (lv_at hl 0 rfl) ?_
    refine x_get C0 hw 3 rfl rfl i_C 11 (by decide) wm_126 rfl rfl d_C_draftGiven_28 ?_
    refine lv_iconst (v := 0) hx hb d_C_draftGiven_31 (by decide) ?_
    refine x_iast C0 hw 5 rfl hi_8 (ws' := WB ad ca T_length T_bytes C_size C_given C_empty C_drafted_3 C_draftedGiven (upd C_block C_drafted_3.toNatClampNeg x1) (upd C_left C_drafted_3.toNatClampNeg (0 : Int32)) C_right C_pivot C_positive_4 C_negative_5 C_live_6 C_needed R_kind R_place R_at R_token R_tokenPlace R_number R_state R_block R_positive R_negative R_left R_right R_pivot L_of F_cut F_labelledA F_labelledB F_row A_root A_words A_known G_size G_variable G_low G_high G_numberOf G_nodeOf G_sides G_waiting B_table B_nextTable) rfl d_C_draftGiven_32 (fun H locs hw => ?_)
    refine lv_aload_n hx hb d_C_draftGiven_33 rfl (lv_at hl 0 rfl) ?_
    refine x_get C0 hw 3 rfl rfl i_C 2 (by decide) wm_101 rfl rfl d_C_draftGiven_34 ?_
    refine lv_aload_n hx hb d_C_draftGiven_37 rfl (lv_at hl 0 rfl) ?_
    refine x_get C0 hw 3 rfl rfl i_C 11 (by decide) wm_126 rfl rfl d_C_draftGiven_38 ?_
    refine lv_iconst (v := 0) hx hb d_C_draftGiven_41 (by decide) ?_
    refine x_iast C0 hw 6 rfl hi_8 (ws' := WB ad ca T_length T_bytes C_size C_given C_empty C_drafted_3 C_draftedGiven (upd C_block C_drafted_3.toNatClampNeg x1) (upd C_left C_drafted_3.toNatClampNeg (0 : Int32)) (upd C_right C_drafted_3.toNatClampNeg (0 : Int32)) C_pivot C_positive_4 C_negative_5 C_live_6 C_needed R_kind R_place R_at R_token R_tokenPlace R_number R_state R_block R_positive R_negative R_left R_right R_pivot L_of F_cut F_labelledA F_labelledB F_row A_root A_words A_known G_size G_variable G_low G_high G_numberOf G_nodeOf G_sides G_waiting B_table B_nextTable) rfl d_C_draftGiven_42 (fun H locs hw => ?_)
    refine lv_aload_n hx hb d_C_draftGiven_43 rfl (lv_at hl 0 rfl) ?_
    refine x_get C0 hw 3 rfl rfl i_C 3 (by decide) wm_104 rfl rfl d_C_draftGiven_44 ?_
    refine lv_aload_n hx hb d_C_draftGiven_47 rfl (lv_at hl 0 rfl) ?_
    refine x_get C0 hw 3 rfl rfl i_C 11 (by decide) wm_126 rfl rfl d_C_draftGiven_48 ?_
    refine lv_iconst (v := 0) hx hb d_C_draftGiven_51 (by decide) ?_
    refine x_iast C0 hw 7 rfl hi_8 (ws' := WB ad ca T_length T_bytes C_size C_given C_empty C_drafted_3 C_draftedGiven (upd C_block C_drafted_3.toNatClampNeg x1) (upd C_left C_drafted_3.toNatClampNeg (0 : Int32)) (upd C_right C_drafted_3.toNatClampNeg (0 : Int32)) (upd C_pivot C_drafted_3.toNatClampNeg (0 : Int32)) C_positive_4 C_negative_5 C_live_6 C_needed R_kind R_place R_at R_token R_tokenPlace R_number R_state R_block R_positive R_negative R_left R_right R_pivot L_of F_cut F_labelledA F_labelledB F_row A_root A_words A_known G_size G_variable G_low G_high G_numberOf G_nodeOf G_sides G_waiting B_table B_nextTable) rfl d_C_draftGiven_52 (fun H locs hw => ?_)
    refine lv_aload_n hx hb d_C_draftGiven_53 rfl (lv_at hl 0 rfl) ?_
    refine lv_dup hx hb d_C_draftGiven_54 rfl ?_
    refine x_get C0 hw 3 rfl rfl i_C 12 (by decide) wm_127 rfl rfl d_C_draftGiven_55 ?_
    refine lv_iconst (v := 1) hx hb d_C_draftGiven_58 (by decide) ?_
    refine lv_iadd hx hb d_C_draftGiven_59 ?_
    refine x_put C0 hw 3 rfl rfl i_C tk_C n_C 12 (by decide) wm_127 rfl rfl rfl rfl (Nat.le_of_ble_eq_true rfl) (ws' := WB ad ca T_length T_bytes C_size C_given C_empty C_drafted_3 (C_draftedGiven + (1 : Int32)) (upd C_block C_drafted_3.toNatClampNeg x1) (upd C_left C_drafted_3.toNatClampNeg (0 : Int32)) (upd C_right C_drafted_3.toNatClampNeg (0 : Int32)) (upd C_pivot C_drafted_3.toNatClampNeg (0 : Int32)) C_positive_4 C_negative_5 C_live_6 C_needed R_kind R_place R_at R_token R_tokenPlace R_number R_state R_block R_positive R_negative R_left R_right R_pivot L_of F_cut F_labelledA F_labelledB F_row A_root A_words A_known G_size G_variable G_low G_high G_numberOf G_nodeOf G_sides G_waiting B_table B_nextTable) rfl d_C_draftGiven_60 (fun H locs hw => ?_)
    exact x_vret C0 hw (C_drafted_3, (C_draftedGiven + (1 : Int32)), (upd C_block C_drafted_3.toNatClampNeg x1), (upd C_left C_drafted_3.toNatClampNeg (0 : Int32)), (upd C_right C_drafted_3.toNatClampNeg (0 : Int32)), (upd C_pivot C_drafted_3.toNatClampNeg (0 : Int32)), C_positive_4, C_negative_5, C_live_6) h rfl d_C_draftGiven_63
theorem g_C_draftResolvent : GY y_C_draftResolvent b_C_draftResolvent 4 none 3 := ⟨wm_482, wm_55, by decide +kernel, by decide +kernel, by decide +kernel⟩
def p_C_draftResolvent (C_drafted : Int32) (C_block : Nat → Int32) (C_left : Nat → Int32) (C_right : Nat → Int32) (C_pivot : Nat → Int32) (C_positive : Nat → Int32) (C_negative : Nat → Int32) (C_live : Nat → Int32) (x1 : Int32) (x2 : Int32) (x3 : Int32) (k : Int32 → (Nat → Int32) → (Nat → Int32) → (Nat → Int32) → (Nat → Int32) → (Nat → Int32) → (Nat → Int32) → (Nat → Int32) → Prop) : Prop :=
  (p_C_hasRoom C_drafted (fun (r_1 : Int32) => ((r_1 = 0 → (k C_drafted C_block C_left C_right C_pivot C_positive C_negative C_live)) ∧ (¬ r_1 = 0 → (p_C_isDrafted C_drafted x1 (fun (r_3 : Int32) => ((r_3 = 0 → (k C_drafted C_block C_left C_right C_pivot C_positive C_negative C_live)) ∧ (¬ r_3 = 0 → (p_C_isDrafted C_drafted x2 (fun (r_5 : Int32) => ((r_5 = 0 → (k C_drafted C_block C_left C_right C_pivot C_positive C_negative C_live)) ∧ (¬ r_5 = 0 → (p_C_positiveRest C_positive x1 x2 x3 (fun (r_7 : Int32) => (p_C_negativeRest C_negative x1 x2 x3 (fun (r_8 : Int32) => (p_C_draft C_drafted C_positive C_negative C_live r_7 r_8 (fun (C_drafted_9 : Int32) (C_positive_10 : Nat → Int32) (C_negative_11 : Nat → Int32) (C_live_12 : Nat → Int32) => (vp_in C_drafted_9 201 ∧ (k C_drafted_9 (upd C_block C_drafted_9.toNatClampNeg (0 : Int32)) (upd C_left C_drafted_9.toNatClampNeg x1) (upd C_right C_drafted_9.toNatClampNeg x2) (upd C_pivot C_drafted_9.toNatClampNeg x3) C_positive_10 C_negative_11 C_live_12))))))))))))))))))))
abbrev rm_C_draftResolvent : Room := { frames := 2, cells := 0, slots := 0, locals := 43 }
set_option maxHeartbeats 4000000 in
set_option maxRecDepth 100000 in
theorem c_C_draftResolvent {l : Launch} {D : va_G} {ca : Nat → ClassId} {tp : Nat} {ad : Nat → Nat} {T_length : Int32} {T_bytes : Nat → Int32} {C_size : Int32} {C_given : Int32} {C_empty : Int32} {C_drafted : Int32} {C_draftedGiven : Int32} {C_block : Nat → Int32} {C_left : Nat → Int32} {C_right : Nat → Int32} {C_pivot : Nat → Int32} {C_positive : Nat → Int32} {C_negative : Nat → Int32} {C_live : Nat → Int32} {C_needed : Nat → Int32} {R_kind : Int32} {R_place : Int32} {R_at : Int32} {R_token : Int32} {R_tokenPlace : Int32} {R_number : Int32} {R_state : Int32} {R_block : Int32} {R_positive : Int32} {R_negative : Int32} {R_left : Int32} {R_right : Int32} {R_pivot : Int32} {L_of : Nat → Int32} {F_cut : Int32} {F_labelledA : Int32} {F_labelledB : Int32} {F_row : Nat → Int64} {A_root : Int32} {A_words : Nat → Int64} {A_known : Nat → Int32} {G_size : Int32} {G_variable : Nat → Int32} {G_low : Nat → Int32} {G_high : Nat → Int32} {G_numberOf : Nat → Int32} {G_nodeOf : Nat → Int32} {G_sides : Nat → Int32} {G_waiting : Nat → Int32} {B_table : Nat → Int64} {B_nextTable : Nat → Int64} {x1 : Int32} {x2 : Int32} {x3 : Int32} {k : Int32 → (Nat → Int32) → (Nat → Int32) → (Nat → Int32) → (Nat → Int32) → (Nat → Int32) → (Nat → Int32) → (Nat → Int32) → Prop} (h : p_C_draftResolvent C_drafted C_block C_left C_right C_pivot C_positive C_negative C_live x1 x2 x3 k) :
    MTv l y_C_draftResolvent b_C_draftResolvent 4 none rm_C_draftResolvent D ca tp [.ref (ad 3), .int x1, .int x2, .int x3] (WB ad ca T_length T_bytes C_size C_given C_empty C_drafted C_draftedGiven C_block C_left C_right C_pivot C_positive C_negative C_live C_needed R_kind R_place R_at R_token R_tokenPlace R_number R_state R_block R_positive R_negative R_left R_right R_pivot L_of F_cut F_labelledA F_labelledB F_row A_root A_words A_known G_size G_variable G_low G_high G_numberOf G_nodeOf G_sides G_waiting B_table B_nextTable)
      (fun (u : Int32 × (Nat → Int32) × (Nat → Int32) × (Nat → Int32) × (Nat → Int32) × (Nat → Int32) × (Nat → Int32) × (Nat → Int32)) => k u.1 u.2.1 u.2.2.1 u.2.2.2.1 u.2.2.2.2.1 u.2.2.2.2.2.1 u.2.2.2.2.2.2.1 u.2.2.2.2.2.2.2)
      (fun (u : Int32 × (Nat → Int32) × (Nat → Int32) × (Nat → Int32) × (Nat → Int32) × (Nat → Int32) × (Nat → Int32) × (Nat → Int32)) => WB ad ca T_length T_bytes C_size C_given C_empty u.1 C_draftedGiven u.2.1 u.2.2.1 u.2.2.2.1 u.2.2.2.2.1 u.2.2.2.2.2.1 u.2.2.2.2.2.2.1 u.2.2.2.2.2.2.2 C_needed R_kind R_place R_at R_token R_tokenPlace R_number R_state R_block R_positive R_negative R_left R_right R_pivot L_of F_cut F_labelledA F_labelledB F_row A_root A_words A_known G_size G_variable G_low G_high G_numberOf G_nodeOf G_sides G_waiting B_table B_nextTable) 0 0 := by
  refine x_entryv (own := R_C) (nm := "draftResolvent") (by decide) rfl rfl (Nat.le_of_ble_eq_true rfl) (fun p e s m below meth c A ls C0 hw hl => ?_)
  have hx := C0.1
  have hb := C0.2.1
  have hl : lv_has ls 4 [(0, .ref (ad 3)), (1, .int x1), (2, .int x2), (3, .int x3)] := hl
  unfold p_C_draftResolvent at h
  refine lv_aload_n hx hb d_C_draftResolvent_0 rfl (lv_at hl 0 rfl) ?_
  refine x_callVi C0 hw hl (c_C_hasRoom h) g_C_hasRoom wm_394 ⟨wm_396, wm_395⟩ 3 rfl rfl rfl (As := []) (rest := []) rfl rfl (Nat.le_of_ble_eq_true rfl) ⟨rfl, rfl⟩ ⟨Nat.le_of_ble_eq_true rfl, Nat.le_of_ble_eq_true rfl⟩ ⟨Nat.le_of_ble_eq_true rfl, Nat.le_of_ble_eq_true rfl⟩ d_C_draftResolvent_1 (fun r_1 u H locs h hw => ?_)
  refine lv_if_eq (tgt := 81) hx hb d_C_draftResolvent_4 (by decide) (fun c_2 => ?_) (fun c_2 => ?_)
  · have h := h.1 c_2
    exact x_vret C0 hw (C_drafted, C_block, C_left, C_right, C_pivot, C_positive, C_negative, C_live) h rfl d_C_draftResolvent_81
  · have h := h.2 c_2
    refine lv_aload_n hx hb d_C_draftResolvent_7 rfl (lv_at hl 0 rfl) ?_
    refine lv_iload_n hx hb d_C_draftResolvent_8 rfl (lv_at hl 1 rfl) ?_
    refine x_callVi C0 hw hl (c_C_isDrafted h) g_C_isDrafted wm_483 ⟨wm_438, wm_437⟩ 3 rfl rfl rfl (As := [.int x1]) (rest := []) rfl rfl (Nat.le_of_ble_eq_true rfl) ⟨rfl, rfl⟩ ⟨Nat.le_of_ble_eq_true rfl, Nat.le_of_ble_eq_true rfl⟩ ⟨Nat.le_of_ble_eq_true rfl, Nat.le_of_ble_eq_true rfl⟩ d_C_draftResolvent_9 (fun r_3 u H locs h hw => ?_)
    refine lv_if_eq (tgt := 81) hx hb d_C_draftResolvent_12 (by decide) (fun c_4 => ?_) (fun c_4 => ?_)
    · have h := h.1 c_4
      exact x_vret C0 hw (C_drafted, C_block, C_left, C_right, C_pivot, C_positive, C_negative, C_live) h rfl d_C_draftResolvent_81
    · have h := h.2 c_4
      refine lv_aload_n hx hb d_C_draftResolvent_15 rfl (lv_at hl 0 rfl) ?_
      refine lv_iload_n hx hb d_C_draftResolvent_16 rfl (lv_at hl 2 rfl) ?_
      refine x_callVi C0 hw hl (c_C_isDrafted h) g_C_isDrafted wm_483 ⟨wm_438, wm_437⟩ 3 rfl rfl rfl (As := [.int x2]) (rest := []) rfl rfl (Nat.le_of_ble_eq_true rfl) ⟨rfl, rfl⟩ ⟨Nat.le_of_ble_eq_true rfl, Nat.le_of_ble_eq_true rfl⟩ ⟨Nat.le_of_ble_eq_true rfl, Nat.le_of_ble_eq_true rfl⟩ d_C_draftResolvent_17 (fun r_5 u H locs h hw => ?_)
      refine lv_if_eq (tgt := 81) hx hb d_C_draftResolvent_20 (by decide) (fun c_6 => ?_) (fun c_6 => ?_)
      · have h := h.1 c_6
        exact x_vret C0 hw (C_drafted, C_block, C_left, C_right, C_pivot, C_positive, C_negative, C_live) h rfl d_C_draftResolvent_81
      · have h := h.2 c_6
        refine lv_aload_n hx hb d_C_draftResolvent_23 rfl (lv_at hl 0 rfl) ?_
        refine lv_aload_n hx hb d_C_draftResolvent_24 rfl (lv_at hl 0 rfl) ?_
        refine lv_iload_n hx hb d_C_draftResolvent_25 rfl (lv_at hl 1 rfl) ?_
        refine lv_iload_n hx hb d_C_draftResolvent_26 rfl (lv_at hl 2 rfl) ?_
        refine lv_iload_n hx hb d_C_draftResolvent_27 rfl (lv_at hl 3 rfl) ?_
        refine x_callVi C0 hw hl (c_C_positiveRest h) g_C_positiveRest wm_462 ⟨wm_16, wm_464⟩ 3 rfl rfl rfl (As := [.int x1, .int x2, .int x3]) (rest := [.ref (ad 3)]) rfl rfl (Nat.le_of_ble_eq_true rfl) ⟨rfl, rfl⟩ ⟨Nat.le_of_ble_eq_true rfl, Nat.le_of_ble_eq_true rfl⟩ ⟨Nat.le_of_ble_eq_true rfl, Nat.le_of_ble_eq_true rfl⟩ d_C_draftResolvent_28 (fun r_7 u H locs h hw => ?_)
        refine lv_aload_n hx hb d_C_draftResolvent_31 rfl (lv_at hl 0 rfl) ?_
        refine lv_iload_n hx hb d_C_draftResolvent_32 rfl (lv_at hl 1 rfl) ?_
        refine lv_iload_n hx hb d_C_draftResolvent_33 rfl (lv_at hl 2 rfl) ?_
        refine lv_iload_n hx hb d_C_draftResolvent_34 rfl (lv_at hl 3 rfl) ?_
        refine x_callVi C0 hw hl (c_C_negativeRest h) g_C_negativeRest wm_466 ⟨wm_17, wm_468⟩ 3 rfl rfl rfl (As := [.int x1, .int x2, .int x3]) (rest := [.int r_7, .ref (ad 3)]) rfl rfl (Nat.le_of_ble_eq_true rfl) ⟨rfl, rfl⟩ ⟨Nat.le_of_ble_eq_true rfl, Nat.le_of_ble_eq_true rfl⟩ ⟨Nat.le_of_ble_eq_true rfl, Nat.le_of_ble_eq_true rfl⟩ d_C_draftResolvent_35 (fun r_8 u H locs h hw => ?_)
        refine x_callVv C0 hw hl (c_C_draft h) g_C_draft wm_420 ⟨wm_10, wm_422⟩ 3 rfl rfl rfl (As := [.int r_7, .int r_8]) (rest := []) rfl rfl (Nat.le_of_ble_eq_true rfl) ⟨rfl, rfl⟩ ⟨Nat.le_of_ble_eq_true rfl, Nat.le_of_ble_eq_true rfl⟩ ⟨Nat.le_of_ble_eq_true rfl, Nat.le_of_ble_eq_true rfl⟩ d_C_draftResolvent_38 (fun u H locs h hw => ?_)
        obtain ⟨C_drafted_9, C_positive_10, C_negative_11, C_live_12⟩ := u
        refine lv_aload_n hx hb d_C_draftResolvent_41 rfl (lv_at hl 0 rfl) ?_
        refine x_get C0 hw 3 rfl rfl i_C 0 (by decide) wm_95 rfl rfl d_C_draftResolvent_42 ?_
        refine lv_aload_n hx hb d_C_draftResolvent_45 rfl (lv_at hl 0 rfl) ?_
        refine x_get C0 hw 3 rfl rfl i_C 11 (by decide) wm_126 rfl rfl d_C_draftResolvent_46 ?_
        refine lv_iconst (v := 0) hx hb d_C_draftResolvent_49 (by decide) ?_
        obtain ⟨hi_14, h⟩ := h
        refine x_iast C0 hw 4 rfl hi_14 (ws' := WB ad ca T_length T_bytes C_size C_given C_empty C_drafted_9 C_draftedGiven (upd C_block C_drafted_9.toNatClampNeg (0 : Int32)) C_left C_right C_pivot C_positive_10 C_negative_11 C_live_12 C_needed R_kind R_place R_at R_token R_tokenPlace R_number R_state R_block R_positive R_negative R_left R_right R_pivot L_of F_cut F_labelledA F_labelledB F_row A_root A_words A_known G_size G_variable G_low G_high G_numberOf G_nodeOf G_sides G_waiting B_table B_nextTable) rfl d_C_draftResolvent_50 (fun H locs hw => ?_)
        refine lv_aload_n hx hb d_C_draftResolvent_51 rfl (lv_at hl 0 rfl) ?_
        refine x_get C0 hw 3 rfl rfl i_C 1 (by decide) wm_98 rfl rfl d_C_draftResolvent_52 ?_
        refine lv_aload_n hx hb d_C_draftResolvent_55 rfl (lv_at hl 0 rfl) ?_
        refine x_get C0 hw 3 rfl rfl i_C 11 (by decide) wm_126 rfl rfl d_C_draftResolvent_56 ?_
        refine lv_iload_n hx hb d_C_draftResolvent_59 rfl (lv_at hl 1 rfl) ?_
        refine x_iast C0 hw 5 rfl hi_14 (ws' := WB ad ca T_length T_bytes C_size C_given C_empty C_drafted_9 C_draftedGiven (upd C_block C_drafted_9.toNatClampNeg (0 : Int32)) (upd C_left C_drafted_9.toNatClampNeg x1) C_right C_pivot C_positive_10 C_negative_11 C_live_12 C_needed R_kind R_place R_at R_token R_tokenPlace R_number R_state R_block R_positive R_negative R_left R_right R_pivot L_of F_cut F_labelledA F_labelledB F_row A_root A_words A_known G_size G_variable G_low G_high G_numberOf G_nodeOf G_sides G_waiting B_table B_nextTable) rfl d_C_draftResolvent_60 (fun H locs hw => ?_)
        refine lv_aload_n hx hb d_C_draftResolvent_61 rfl (lv_at hl 0 rfl) ?_
        refine x_get C0 hw 3 rfl rfl i_C 2 (by decide) wm_101 rfl rfl d_C_draftResolvent_62 ?_
        refine lv_aload_n hx hb d_C_draftResolvent_65 rfl (lv_at hl 0 rfl) ?_
        refine x_get C0 hw 3 rfl rfl i_C 11 (by decide) wm_126 rfl rfl d_C_draftResolvent_66 ?_
        refine lv_iload_n hx hb d_C_draftResolvent_69 rfl (lv_at hl 2 rfl) ?_
        refine x_iast C0 hw 6 rfl hi_14 (ws' := WB ad ca T_length T_bytes C_size C_given C_empty C_drafted_9 C_draftedGiven (upd C_block C_drafted_9.toNatClampNeg (0 : Int32)) (upd C_left C_drafted_9.toNatClampNeg x1) (upd C_right C_drafted_9.toNatClampNeg x2) C_pivot C_positive_10 C_negative_11 C_live_12 C_needed R_kind R_place R_at R_token R_tokenPlace R_number R_state R_block R_positive R_negative R_left R_right R_pivot L_of F_cut F_labelledA F_labelledB F_row A_root A_words A_known G_size G_variable G_low G_high G_numberOf G_nodeOf G_sides G_waiting B_table B_nextTable) rfl d_C_draftResolvent_70 (fun H locs hw => ?_)
        refine lv_aload_n hx hb d_C_draftResolvent_71 rfl (lv_at hl 0 rfl) ?_
        refine x_get C0 hw 3 rfl rfl i_C 3 (by decide) wm_104 rfl rfl d_C_draftResolvent_72 ?_
        refine lv_aload_n hx hb d_C_draftResolvent_75 rfl (lv_at hl 0 rfl) ?_
        refine x_get C0 hw 3 rfl rfl i_C 11 (by decide) wm_126 rfl rfl d_C_draftResolvent_76 ?_
        refine lv_iload_n hx hb d_C_draftResolvent_79 rfl (lv_at hl 3 rfl) ?_
        refine x_iast C0 hw 7 rfl hi_14 (ws' := WB ad ca T_length T_bytes C_size C_given C_empty C_drafted_9 C_draftedGiven (upd C_block C_drafted_9.toNatClampNeg (0 : Int32)) (upd C_left C_drafted_9.toNatClampNeg x1) (upd C_right C_drafted_9.toNatClampNeg x2) (upd C_pivot C_drafted_9.toNatClampNeg x3) C_positive_10 C_negative_11 C_live_12 C_needed R_kind R_place R_at R_token R_tokenPlace R_number R_state R_block R_positive R_negative R_left R_right R_pivot L_of F_cut F_labelledA F_labelledB F_row A_root A_words A_known G_size G_variable G_low G_high G_numberOf G_nodeOf G_sides G_waiting B_table B_nextTable) rfl d_C_draftResolvent_80 (fun H locs hw => ?_)
        exact x_vret C0 hw (C_drafted_9, (upd C_block C_drafted_9.toNatClampNeg (0 : Int32)), (upd C_left C_drafted_9.toNatClampNeg x1), (upd C_right C_drafted_9.toNatClampNeg x2), (upd C_pivot C_drafted_9.toNatClampNeg x3), C_positive_10, C_negative_11, C_live_12) h rfl d_C_draftResolvent_81

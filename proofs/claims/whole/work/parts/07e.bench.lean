theorem g_B_nextInterpolant : GY y_B_nextInterpolant b_B_nextInterpolant 3 none 2 := ⟨wm_692, wm_53, by decide +kernel, by decide +kernel, by decide +kernel⟩
def p_B_nextInterpolant (C_size : Int32) (C_empty : Int32) (C_block : Nat → Int32) (C_left : Nat → Int32) (C_right : Nat → Int32) (C_pivot : Nat → Int32) (C_positive : Nat → Int32) (C_negative : Nat → Int32) (C_needed : Nat → Int32) (L_of : Nat → Int32) (F_cut : Int32) (F_labelledA : Int32) (F_labelledB : Int32) (F_row : Nat → Int64) (B_nextTable : Nat → Int64) (x1 : Int32) (x2 : Int32) (k : Int32 → Int32 → Int32 → (Nat → Int64) → (Nat → Int64) → Prop) : Prop :=
  (((7 : Int32) ≤ x1 → (p_J_fillL B_nextTable (0 : Int64) (fun (B_nextTable_2 : Nat → Int64) => (k F_cut F_labelledA F_labelledB F_row B_nextTable_2)))) ∧ (¬ (7 : Int32) ≤ x1 → (p_F_interpolantN C_size C_empty C_block C_left C_right C_pivot C_positive C_negative C_needed L_of F_row B_nextTable (x1 + (1 : Int32)) x2 (fun (F_cut_4 : Int32) (F_labelledA_5 : Int32) (F_labelledB_6 : Int32) (F_row_7 : Nat → Int64) (B_nextTable_8 : Nat → Int64) => (k F_cut_4 F_labelledA_5 F_labelledB_6 F_row_7 B_nextTable_8)))))
abbrev rm_B_nextInterpolant : Room := { frames := 5, cells := 0, slots := 0, locals := 116 }
set_option maxHeartbeats 4000000 in
set_option maxRecDepth 100000 in
theorem c_B_nextInterpolant {l : Launch} {D : va_G} {ca : Nat → ClassId} {tp : Nat} {ad : Nat → Nat} {T_length : Int32} {T_bytes : Nat → Int32} {C_size : Int32} {C_given : Int32} {C_empty : Int32} {C_drafted : Int32} {C_draftedGiven : Int32} {C_block : Nat → Int32} {C_left : Nat → Int32} {C_right : Nat → Int32} {C_pivot : Nat → Int32} {C_positive : Nat → Int32} {C_negative : Nat → Int32} {C_live : Nat → Int32} {C_needed : Nat → Int32} {R_kind : Int32} {R_place : Int32} {R_at : Int32} {R_token : Int32} {R_tokenPlace : Int32} {R_number : Int32} {R_state : Int32} {R_block : Int32} {R_positive : Int32} {R_negative : Int32} {R_left : Int32} {R_right : Int32} {R_pivot : Int32} {L_of : Nat → Int32} {F_cut : Int32} {F_labelledA : Int32} {F_labelledB : Int32} {F_row : Nat → Int64} {A_root : Int32} {A_words : Nat → Int64} {A_known : Nat → Int32} {G_size : Int32} {G_variable : Nat → Int32} {G_low : Nat → Int32} {G_high : Nat → Int32} {G_numberOf : Nat → Int32} {G_nodeOf : Nat → Int32} {G_sides : Nat → Int32} {G_waiting : Nat → Int32} {B_table : Nat → Int64} {B_nextTable : Nat → Int64} {x1 : Int32} {x2 : Int32} {k : Int32 → Int32 → Int32 → (Nat → Int64) → (Nat → Int64) → Prop} (h : p_B_nextInterpolant C_size C_empty C_block C_left C_right C_pivot C_positive C_negative C_needed L_of F_cut F_labelledA F_labelledB F_row B_nextTable x1 x2 k) :
    MTv l y_B_nextInterpolant b_B_nextInterpolant 3 none rm_B_nextInterpolant D ca tp [.ref (ad 0), .int x1, .int x2] (WB ad ca T_length T_bytes C_size C_given C_empty C_drafted C_draftedGiven C_block C_left C_right C_pivot C_positive C_negative C_live C_needed R_kind R_place R_at R_token R_tokenPlace R_number R_state R_block R_positive R_negative R_left R_right R_pivot L_of F_cut F_labelledA F_labelledB F_row A_root A_words A_known G_size G_variable G_low G_high G_numberOf G_nodeOf G_sides G_waiting B_table B_nextTable)
      (fun (u : Int32 × Int32 × Int32 × (Nat → Int64) × (Nat → Int64)) => k u.1 u.2.1 u.2.2.1 u.2.2.2.1 u.2.2.2.2)
      (fun (u : Int32 × Int32 × Int32 × (Nat → Int64) × (Nat → Int64)) => WB ad ca T_length T_bytes C_size C_given C_empty C_drafted C_draftedGiven C_block C_left C_right C_pivot C_positive C_negative C_live C_needed R_kind R_place R_at R_token R_tokenPlace R_number R_state R_block R_positive R_negative R_left R_right R_pivot L_of u.1 u.2.1 u.2.2.1 u.2.2.2.1 A_root A_words A_known G_size G_variable G_low G_high G_numberOf G_nodeOf G_sides G_waiting B_table u.2.2.2.2) 0 0 := by
  refine x_entryv (own := R_B) (nm := "nextInterpolant") (by decide) rfl rfl (Nat.le_of_ble_eq_true rfl) (fun p e s m below meth c A ls C0 hw hl => ?_)
  have hx := C0.1
  have hb := C0.2.1
  have hl : lv_has ls 3 [(0, .ref (ad 0)), (1, .int x1), (2, .int x2)] := hl
  unfold p_B_nextInterpolant at h
  refine lv_iload_n hx hb d_B_nextInterpolant_0 rfl (lv_at hl 1 rfl) ?_
  refine lv_bipush (v := 7) hx hb d_B_nextInterpolant_1 (by decide) ?_
  refine lv_icmp_ge (tgt := 24) hx hb d_B_nextInterpolant_3 (by decide) (fun c_1 => ?_) (fun c_1 => ?_)
  · have h := h.1 c_1
    refine lv_aload_n hx hb d_B_nextInterpolant_24 rfl (lv_at hl 0 rfl) ?_
    refine x_get C0 hw 0 rfl rfl i_B 7 (by decide) wm_311 rfl rfl d_B_nextInterpolant_25 ?_
    refine lv_lconst (v := 0) hx hb d_B_nextInterpolant_28 (by decide) ?_
    refine x_callSv C0 hw hl (c_J_fillL h) g_J_fillL wm_693 wm_694 (As := [.ref (ad 29), .long (0 : Int64)]) (rest := []) rfl rfl (Nat.le_of_ble_eq_true rfl) ⟨rfl, rfl⟩ ⟨Nat.le_of_ble_eq_true rfl, Nat.le_of_ble_eq_true rfl⟩ ⟨Nat.le_of_ble_eq_true rfl, Nat.le_of_ble_eq_true rfl⟩ d_B_nextInterpolant_29 (fun u H locs h hw => ?_)
    obtain ⟨B_nextTable_2, rfl⟩ : ∃ z, z = u := ⟨_, rfl⟩
    exact x_vret C0 hw (F_cut, F_labelledA, F_labelledB, F_row, B_nextTable_2) h rfl d_B_nextInterpolant_32
  · have h := h.2 c_1
    refine lv_aload_n hx hb d_B_nextInterpolant_6 rfl (lv_at hl 0 rfl) ?_
    refine x_get C0 hw 0 rfl rfl i_B 4 (by decide) wm_308 rfl rfl d_B_nextInterpolant_7 ?_
    refine lv_iload_n hx hb d_B_nextInterpolant_10 rfl (lv_at hl 1 rfl) ?_
    refine lv_iconst (v := 1) hx hb d_B_nextInterpolant_11 (by decide) ?_
    refine lv_iadd hx hb d_B_nextInterpolant_12 ?_
    refine lv_iload_n hx hb d_B_nextInterpolant_13 rfl (lv_at hl 2 rfl) ?_
    refine lv_aload_n hx hb d_B_nextInterpolant_14 rfl (lv_at hl 0 rfl) ?_
    refine x_get C0 hw 0 rfl rfl i_B 7 (by decide) wm_311 rfl rfl d_B_nextInterpolant_15 ?_
    refine x_callVv C0 hw hl (c_F_interpolantN h) g_F_interpolant wm_678 ⟨wm_680, wm_679⟩ 15 rfl rfl rfl (As := [.int (x1 + (1 : Int32)), .int x2, .ref (ad 29)]) (rest := []) rfl rfl (Nat.le_of_ble_eq_true rfl) ⟨rfl, rfl⟩ ⟨Nat.le_of_ble_eq_true rfl, Nat.le_of_ble_eq_true rfl⟩ ⟨Nat.le_of_ble_eq_true rfl, Nat.le_of_ble_eq_true rfl⟩ d_B_nextInterpolant_18 (fun u H locs h hw => ?_)
    obtain ⟨F_cut_4, F_labelledA_5, F_labelledB_6, F_row_7, B_nextTable_8⟩ := u
    refine lv_goto (tgt := 32) hx hb d_B_nextInterpolant_21 (by decide) ?_
    exact x_vret C0 hw (F_cut_4, F_labelledA_5, F_labelledB_6, F_row_7, B_nextTable_8) h rfl d_B_nextInterpolant_32
theorem g_B_gapWord : GY y_B_gapWord b_B_gapWord 4 (some .long) 3 := ⟨wm_699, wm_53, by decide +kernel, by decide +kernel, by decide +kernel⟩
def p_B_gapWord (C_size : Int32) (C_block : Nat → Int32) (C_positive : Nat → Int32) (C_negative : Nat → Int32) (B_table : Nat → Int64) (B_nextTable : Nat → Int64) (x1 : Int32) (x2 : Int32) (x3 : Int32) (k : Int64 → Prop) : Prop :=
  ((x2 = (0 : Int32) → (p_C_allTrue C_size C_block C_positive C_negative (1 : Int32) x1 x3 (fun (r_2 : Int64) => (vp_in x3 16 ∧ (k (r_2 &&& ((B_table x3.toNatClampNeg) ^^^ (-1 : Int64)))))))) ∧ (x2 = (1 : Int32) → (p_C_allTrue C_size C_block C_positive C_negative (x1 + (1 : Int32)) (8 : Int32) x3 (fun (r_5 : Int64) => (vp_in x3 16 ∧ (k (r_5 &&& (B_table x3.toNatClampNeg))))))) ∧ (¬ x2 = (0 : Int32) → ¬ x2 = (1 : Int32) → (p_C_allTrue C_size C_block C_positive C_negative (x1 + (1 : Int32)) (x1 + (1 : Int32)) x3 (fun (r_7 : Int64) => (vp_in x3 16 ∧ (k ((r_7 &&& (B_table x3.toNatClampNeg)) &&& ((B_nextTable x3.toNatClampNeg) ^^^ (-1 : Int64)))))))))
abbrev rm_B_gapWord : Room := { frames := 3, cells := 0, slots := 0, locals := 72 }
set_option maxHeartbeats 4000000 in
set_option maxRecDepth 100000 in
theorem c_B_gapWord {l : Launch} {D : va_G} {ca : Nat → ClassId} {tp : Nat} {ad : Nat → Nat} {T_length : Int32} {T_bytes : Nat → Int32} {C_size : Int32} {C_given : Int32} {C_empty : Int32} {C_drafted : Int32} {C_draftedGiven : Int32} {C_block : Nat → Int32} {C_left : Nat → Int32} {C_right : Nat → Int32} {C_pivot : Nat → Int32} {C_positive : Nat → Int32} {C_negative : Nat → Int32} {C_live : Nat → Int32} {C_needed : Nat → Int32} {R_kind : Int32} {R_place : Int32} {R_at : Int32} {R_token : Int32} {R_tokenPlace : Int32} {R_number : Int32} {R_state : Int32} {R_block : Int32} {R_positive : Int32} {R_negative : Int32} {R_left : Int32} {R_right : Int32} {R_pivot : Int32} {L_of : Nat → Int32} {F_cut : Int32} {F_labelledA : Int32} {F_labelledB : Int32} {F_row : Nat → Int64} {A_root : Int32} {A_words : Nat → Int64} {A_known : Nat → Int32} {G_size : Int32} {G_variable : Nat → Int32} {G_low : Nat → Int32} {G_high : Nat → Int32} {G_numberOf : Nat → Int32} {G_nodeOf : Nat → Int32} {G_sides : Nat → Int32} {G_waiting : Nat → Int32} {B_table : Nat → Int64} {B_nextTable : Nat → Int64} {x1 : Int32} {x2 : Int32} {x3 : Int32} {k : Int64 → Prop} (h : p_B_gapWord C_size C_block C_positive C_negative B_table B_nextTable x1 x2 x3 k) :
    MTl l y_B_gapWord b_B_gapWord 4 (some .long) rm_B_gapWord D ca tp [.ref (ad 0), .int x1, .int x2, .int x3] (WB ad ca T_length T_bytes C_size C_given C_empty C_drafted C_draftedGiven C_block C_left C_right C_pivot C_positive C_negative C_live C_needed R_kind R_place R_at R_token R_tokenPlace R_number R_state R_block R_positive R_negative R_left R_right R_pivot L_of F_cut F_labelledA F_labelledB F_row A_root A_words A_known G_size G_variable G_low G_high G_numberOf G_nodeOf G_sides G_waiting B_table B_nextTable)
      (fun r (_ : Unit) => k r)
      (fun (_ : Unit) => WB ad ca T_length T_bytes C_size C_given C_empty C_drafted C_draftedGiven C_block C_left C_right C_pivot C_positive C_negative C_live C_needed R_kind R_place R_at R_token R_tokenPlace R_number R_state R_block R_positive R_negative R_left R_right R_pivot L_of F_cut F_labelledA F_labelledB F_row A_root A_words A_known G_size G_variable G_low G_high G_numberOf G_nodeOf G_sides G_waiting B_table B_nextTable) 0 0 := by
  refine x_entryl (own := R_B) (nm := "gapWord") (by decide) rfl rfl (Nat.le_of_ble_eq_true rfl) (fun p e s m below meth c A ls C0 hw hl => ?_)
  have hx := C0.1
  have hb := C0.2.1
  have hl : lv_has ls 4 [(0, .ref (ad 0)), (1, .int x1), (2, .int x2), (3, .int x3)] := hl
  unfold p_B_gapWord at h
  refine lv_iload_n hx hb d_B_gapWord_0 rfl (lv_at hl 2 rfl) ?_
  by_cases c_1 : x2 = (0 : Int32)
  · have h := h.1 c_1
    refine lv_lookup (tgt := 28) (off := 27) hx hb d_B_gapWord_1 (by decide) (by rw [c_1]; rfl) (by decide) ?_
    refine lv_aload_n hx hb d_B_gapWord_28 rfl (lv_at hl 0 rfl) ?_
    refine x_get C0 hw 0 rfl rfl i_B 1 (by decide) wm_305 rfl rfl d_B_gapWord_29 ?_
    refine lv_iconst (v := 1) hx hb d_B_gapWord_32 (by decide) ?_
    refine lv_iload_n hx hb d_B_gapWord_33 rfl (lv_at hl 1 rfl) ?_
    refine lv_iload_n hx hb d_B_gapWord_34 rfl (lv_at hl 3 rfl) ?_
    refine x_callVl C0 hw hl (c_C_allTrue h) g_C_allTrue wm_700 ⟨wm_702, wm_701⟩ 3 rfl rfl rfl (As := [.int (1 : Int32), .int x1, .int x3]) (rest := []) rfl rfl (Nat.le_of_ble_eq_true rfl) ⟨rfl, rfl⟩ ⟨Nat.le_of_ble_eq_true rfl, Nat.le_of_ble_eq_true rfl⟩ ⟨Nat.le_of_ble_eq_true rfl, Nat.le_of_ble_eq_true rfl⟩ d_B_gapWord_35 (fun r_2 u H locs h hw => ?_)
    refine lv_aload_n hx hb d_B_gapWord_38 rfl (lv_at hl 0 rfl) ?_
    refine x_get C0 hw 0 rfl rfl i_B 6 (by decide) wm_310 rfl rfl d_B_gapWord_39 ?_
    refine lv_iload_n hx hb d_B_gapWord_42 rfl (lv_at hl 3 rfl) ?_
    obtain ⟨hi_3, h⟩ := h
    refine x_lald C0 hw 28 rfl hi_3 d_B_gapWord_43 ?_
    refine x_ldc2 C0 wm_684 d_B_gapWord_44 ?_
    refine lv_lxor hx hb d_B_gapWord_47 ?_
    refine lv_land hx hb d_B_gapWord_48 ?_
    exact x_lret C0 hw () h rfl d_B_gapWord_49
  by_cases c_4 : x2 = (1 : Int32)
  · have h := h.2.1 c_4
    refine lv_lookup (tgt := 50) (off := 49) hx hb d_B_gapWord_1 (by decide) (by rw [c_4]; rfl) (by decide) ?_
    refine lv_aload_n hx hb d_B_gapWord_50 rfl (lv_at hl 0 rfl) ?_
    refine x_get C0 hw 0 rfl rfl i_B 1 (by decide) wm_305 rfl rfl d_B_gapWord_51 ?_
    refine lv_iload_n hx hb d_B_gapWord_54 rfl (lv_at hl 1 rfl) ?_
    refine lv_iconst (v := 1) hx hb d_B_gapWord_55 (by decide) ?_
    refine lv_iadd hx hb d_B_gapWord_56 ?_
    refine lv_bipush (v := 8) hx hb d_B_gapWord_57 (by decide) ?_
    refine lv_iload_n hx hb d_B_gapWord_59 rfl (lv_at hl 3 rfl) ?_
    refine x_callVl C0 hw hl (c_C_allTrue h) g_C_allTrue wm_700 ⟨wm_702, wm_701⟩ 3 rfl rfl rfl (As := [.int (x1 + (1 : Int32)), .int (8 : Int32), .int x3]) (rest := []) rfl rfl (Nat.le_of_ble_eq_true rfl) ⟨rfl, rfl⟩ ⟨Nat.le_of_ble_eq_true rfl, Nat.le_of_ble_eq_true rfl⟩ ⟨Nat.le_of_ble_eq_true rfl, Nat.le_of_ble_eq_true rfl⟩ d_B_gapWord_60 (fun r_5 u H locs h hw => ?_)
    refine lv_aload_n hx hb d_B_gapWord_63 rfl (lv_at hl 0 rfl) ?_
    refine x_get C0 hw 0 rfl rfl i_B 6 (by decide) wm_310 rfl rfl d_B_gapWord_64 ?_
    refine lv_iload_n hx hb d_B_gapWord_67 rfl (lv_at hl 3 rfl) ?_
    obtain ⟨hi_6, h⟩ := h
    refine x_lald C0 hw 28 rfl hi_6 d_B_gapWord_68 ?_
    refine lv_land hx hb d_B_gapWord_69 ?_
    exact x_lret C0 hw () h rfl d_B_gapWord_70
  have h := h.2.2 c_1 c_4
  refine lv_lookup (tgt := 71) (off := 70) hx hb d_B_gapWord_1 (by decide) ((lv_osw c_1 rfl).trans ((lv_osw c_4 rfl).trans rfl)) (by decide) ?_
  refine lv_aload_n hx hb d_B_gapWord_71 rfl (lv_at hl 0 rfl) ?_
  refine x_get C0 hw 0 rfl rfl i_B 1 (by decide) wm_305 rfl rfl d_B_gapWord_72 ?_
  refine lv_iload_n hx hb d_B_gapWord_75 rfl (lv_at hl 1 rfl) ?_
  refine lv_iconst (v := 1) hx hb d_B_gapWord_76 (by decide) ?_
  refine lv_iadd hx hb d_B_gapWord_77 ?_
  refine lv_iload_n hx hb d_B_gapWord_78 rfl (lv_at hl 1 rfl) ?_
  refine lv_iconst (v := 1) hx hb d_B_gapWord_79 (by decide) ?_
  refine lv_iadd hx hb d_B_gapWord_80 ?_
  refine lv_iload_n hx hb d_B_gapWord_81 rfl (lv_at hl 3 rfl) ?_
  refine x_callVl C0 hw hl (c_C_allTrue h) g_C_allTrue wm_700 ⟨wm_702, wm_701⟩ 3 rfl rfl rfl (As := [.int (x1 + (1 : Int32)), .int (x1 + (1 : Int32)), .int x3]) (rest := []) rfl rfl (Nat.le_of_ble_eq_true rfl) ⟨rfl, rfl⟩ ⟨Nat.le_of_ble_eq_true rfl, Nat.le_of_ble_eq_true rfl⟩ ⟨Nat.le_of_ble_eq_true rfl, Nat.le_of_ble_eq_true rfl⟩ d_B_gapWord_82 (fun r_7 u H locs h hw => ?_)
  refine lv_aload_n hx hb d_B_gapWord_85 rfl (lv_at hl 0 rfl) ?_
  refine x_get C0 hw 0 rfl rfl i_B 6 (by decide) wm_310 rfl rfl d_B_gapWord_86 ?_
  refine lv_iload_n hx hb d_B_gapWord_89 rfl (lv_at hl 3 rfl) ?_
  obtain ⟨hi_8, h⟩ := h
  refine x_lald C0 hw 28 rfl hi_8 d_B_gapWord_90 ?_
  refine lv_land hx hb d_B_gapWord_91 ?_
  refine lv_aload_n hx hb d_B_gapWord_92 rfl (lv_at hl 0 rfl) ?_
  refine x_get C0 hw 0 rfl rfl i_B 7 (by decide) wm_311 rfl rfl d_B_gapWord_93 ?_
  refine lv_iload_n hx hb d_B_gapWord_96 rfl (lv_at hl 3 rfl) ?_
  refine x_lald C0 hw 29 rfl hi_8 d_B_gapWord_97 ?_
  refine x_ldc2 C0 wm_684 d_B_gapWord_98 ?_
  refine lv_lxor hx hb d_B_gapWord_101 ?_
  refine lv_land hx hb d_B_gapWord_102 ?_
  exact x_lret C0 hw () h rfl d_B_gapWord_103
theorem g_B_feed : GY y_B_feed b_B_feed 6 (some .int) 5 := ⟨wm_332, wm_53, by decide +kernel, by decide +kernel, by decide +kernel⟩
def p_B_feed (T_length : Int32) (T_bytes : Nat → Int32) (x1 : Int32) (x2 : Int32) (x3 : Int32) (x4 : Int32) (x5 : Int32) (k : Int32 → Int32 → (Nat → Int32) → Prop) : Prop :=
  ((T_length ≤ (1980 : Int32) → (p_T_append T_length T_bytes x1 (fun (T_length_2 : Int32) (T_bytes_3 : Nat → Int32) => (p_T_append T_length_2 T_bytes_3 x2 (fun (T_length_5 : Int32) (T_bytes_6 : Nat → Int32) => (p_T_append T_length_5 T_bytes_6 x3 (fun (T_length_8 : Int32) (T_bytes_9 : Nat → Int32) => (p_T_append T_length_8 T_bytes_9 x4 (fun (T_length_11 : Int32) (T_bytes_12 : Nat → Int32) => (p_T_append T_length_11 T_bytes_12 x5 (fun (T_length_14 : Int32) (T_bytes_15 : Nat → Int32) => (k T_length_14 T_length_14 T_bytes_15)))))))))))) ∧ (¬ T_length ≤ (1980 : Int32) → (k (-3 : Int32) T_length T_bytes)))
abbrev rm_B_feed : Room := { frames := 1, cells := 0, slots := 0, locals := 22 }
set_option maxHeartbeats 4000000 in
set_option maxRecDepth 100000 in
theorem c_B_feed {l : Launch} {D : va_G} {ca : Nat → ClassId} {tp : Nat} {ad : Nat → Nat} {T_length : Int32} {T_bytes : Nat → Int32} {C_size : Int32} {C_given : Int32} {C_empty : Int32} {C_drafted : Int32} {C_draftedGiven : Int32} {C_block : Nat → Int32} {C_left : Nat → Int32} {C_right : Nat → Int32} {C_pivot : Nat → Int32} {C_positive : Nat → Int32} {C_negative : Nat → Int32} {C_live : Nat → Int32} {C_needed : Nat → Int32} {R_kind : Int32} {R_place : Int32} {R_at : Int32} {R_token : Int32} {R_tokenPlace : Int32} {R_number : Int32} {R_state : Int32} {R_block : Int32} {R_positive : Int32} {R_negative : Int32} {R_left : Int32} {R_right : Int32} {R_pivot : Int32} {L_of : Nat → Int32} {F_cut : Int32} {F_labelledA : Int32} {F_labelledB : Int32} {F_row : Nat → Int64} {A_root : Int32} {A_words : Nat → Int64} {A_known : Nat → Int32} {G_size : Int32} {G_variable : Nat → Int32} {G_low : Nat → Int32} {G_high : Nat → Int32} {G_numberOf : Nat → Int32} {G_nodeOf : Nat → Int32} {G_sides : Nat → Int32} {G_waiting : Nat → Int32} {B_table : Nat → Int64} {B_nextTable : Nat → Int64} {x1 : Int32} {x2 : Int32} {x3 : Int32} {x4 : Int32} {x5 : Int32} {k : Int32 → Int32 → (Nat → Int32) → Prop} (h : p_B_feed T_length T_bytes x1 x2 x3 x4 x5 k) :
    MTi l y_B_feed b_B_feed 6 (some .int) rm_B_feed D ca tp [.ref (ad 0), .int x1, .int x2, .int x3, .int x4, .int x5] (WB ad ca T_length T_bytes C_size C_given C_empty C_drafted C_draftedGiven C_block C_left C_right C_pivot C_positive C_negative C_live C_needed R_kind R_place R_at R_token R_tokenPlace R_number R_state R_block R_positive R_negative R_left R_right R_pivot L_of F_cut F_labelledA F_labelledB F_row A_root A_words A_known G_size G_variable G_low G_high G_numberOf G_nodeOf G_sides G_waiting B_table B_nextTable)
      (fun r (u : Int32 × (Nat → Int32)) => k r u.1 u.2)
      (fun (u : Int32 × (Nat → Int32)) => WB ad ca u.1 u.2 C_size C_given C_empty C_drafted C_draftedGiven C_block C_left C_right C_pivot C_positive C_negative C_live C_needed R_kind R_place R_at R_token R_tokenPlace R_number R_state R_block R_positive R_negative R_left R_right R_pivot L_of F_cut F_labelledA F_labelledB F_row A_root A_words A_known G_size G_variable G_low G_high G_numberOf G_nodeOf G_sides G_waiting B_table B_nextTable) 0 0 := by
  refine x_entryi (own := R_B) (nm := "feed") (by decide) rfl rfl (Nat.le_of_ble_eq_true rfl) (fun p e s m below meth c A ls C0 hw hl => ?_)
  have hx := C0.1
  have hb := C0.2.1
  have hl : lv_has ls 6 [(0, .ref (ad 0)), (1, .int x1), (2, .int x2), (3, .int x3), (4, .int x4), (5, .int x5)] := hl
  unfold p_B_feed at h
  refine lv_aload_n hx hb d_B_feed_0 rfl (lv_at hl 0 rfl) ?_
  refine x_get C0 hw 0 rfl rfl i_B 0 (by decide) wm_304 rfl rfl d_B_feed_1 ?_
  refine x_getN C0 hw 1 rfl rfl i_T 1 (by decide) wm_80 rfl rfl d_B_feed_4 ?_
  refine lv_sipush (v := 1980) hx hb d_B_feed_7 (by decide) ?_
  refine lv_icmp_le (tgt := 16) hx hb d_B_feed_10 (by decide) (fun c_1 => ?_) (fun c_1 => ?_)
  · have h := h.1 c_1
    refine lv_aload_n hx hb d_B_feed_16 rfl (lv_at hl 0 rfl) ?_
    refine x_get C0 hw 0 rfl rfl i_B 0 (by decide) wm_304 rfl rfl d_B_feed_17 ?_
    refine lv_iload_n hx hb d_B_feed_20 rfl (lv_at hl 1 rfl) ?_
    refine x_callVv C0 hw hl (c_T_append h) g_T_append wm_333 ⟨wm_335, wm_334⟩ 1 rfl rfl rfl (As := [.int x1]) (rest := []) rfl rfl (Nat.le_of_ble_eq_true rfl) ⟨rfl, rfl⟩ ⟨Nat.le_of_ble_eq_true rfl, Nat.le_of_ble_eq_true rfl⟩ ⟨Nat.le_of_ble_eq_true rfl, Nat.le_of_ble_eq_true rfl⟩ d_B_feed_21 (fun u H locs h hw => ?_)
    obtain ⟨T_length_2, T_bytes_3⟩ := u
    refine lv_aload_n hx hb d_B_feed_24 rfl (lv_at hl 0 rfl) ?_
    refine x_get C0 hw 0 rfl rfl i_B 0 (by decide) wm_304 rfl rfl d_B_feed_25 ?_
    refine lv_iload_n hx hb d_B_feed_28 rfl (lv_at hl 2 rfl) ?_
    refine x_callVv C0 hw hl (c_T_append h) g_T_append wm_333 ⟨wm_335, wm_334⟩ 1 rfl rfl rfl (As := [.int x2]) (rest := []) rfl rfl (Nat.le_of_ble_eq_true rfl) ⟨rfl, rfl⟩ ⟨Nat.le_of_ble_eq_true rfl, Nat.le_of_ble_eq_true rfl⟩ ⟨Nat.le_of_ble_eq_true rfl, Nat.le_of_ble_eq_true rfl⟩ d_B_feed_29 (fun u H locs h hw => ?_)
    obtain ⟨T_length_5, T_bytes_6⟩ := u
    refine lv_aload_n hx hb d_B_feed_32 rfl (lv_at hl 0 rfl) ?_
    refine x_get C0 hw 0 rfl rfl i_B 0 (by decide) wm_304 rfl rfl d_B_feed_33 ?_
    refine lv_iload_n hx hb d_B_feed_36 rfl (lv_at hl 3 rfl) ?_
    refine x_callVv C0 hw hl (c_T_append h) g_T_append wm_333 ⟨wm_335, wm_334⟩ 1 rfl rfl rfl (As := [.int x3]) (rest := []) rfl rfl (Nat.le_of_ble_eq_true rfl) ⟨rfl, rfl⟩ ⟨Nat.le_of_ble_eq_true rfl, Nat.le_of_ble_eq_true rfl⟩ ⟨Nat.le_of_ble_eq_true rfl, Nat.le_of_ble_eq_true rfl⟩ d_B_feed_37 (fun u H locs h hw => ?_)
    obtain ⟨T_length_8, T_bytes_9⟩ := u
    refine lv_aload_n hx hb d_B_feed_40 rfl (lv_at hl 0 rfl) ?_
    refine x_get C0 hw 0 rfl rfl i_B 0 (by decide) wm_304 rfl rfl d_B_feed_41 ?_
    refine lv_iload hx hb d_B_feed_44 (lv_at hl 4 rfl) ?_
    refine x_callVv C0 hw hl (c_T_append h) g_T_append wm_333 ⟨wm_335, wm_334⟩ 1 rfl rfl rfl (As := [.int x4]) (rest := []) rfl rfl (Nat.le_of_ble_eq_true rfl) ⟨rfl, rfl⟩ ⟨Nat.le_of_ble_eq_true rfl, Nat.le_of_ble_eq_true rfl⟩ ⟨Nat.le_of_ble_eq_true rfl, Nat.le_of_ble_eq_true rfl⟩ d_B_feed_46 (fun u H locs h hw => ?_)
    obtain ⟨T_length_11, T_bytes_12⟩ := u
    refine lv_aload_n hx hb d_B_feed_49 rfl (lv_at hl 0 rfl) ?_
    refine x_get C0 hw 0 rfl rfl i_B 0 (by decide) wm_304 rfl rfl d_B_feed_50 ?_
    refine lv_iload hx hb d_B_feed_53 (lv_at hl 5 rfl) ?_
    refine x_callVv C0 hw hl (c_T_append h) g_T_append wm_333 ⟨wm_335, wm_334⟩ 1 rfl rfl rfl (As := [.int x5]) (rest := []) rfl rfl (Nat.le_of_ble_eq_true rfl) ⟨rfl, rfl⟩ ⟨Nat.le_of_ble_eq_true rfl, Nat.le_of_ble_eq_true rfl⟩ ⟨Nat.le_of_ble_eq_true rfl, Nat.le_of_ble_eq_true rfl⟩ d_B_feed_55 (fun u H locs h hw => ?_)
    obtain ⟨T_length_14, T_bytes_15⟩ := u
    refine lv_aload_n hx hb d_B_feed_58 rfl (lv_at hl 0 rfl) ?_
    refine x_get C0 hw 0 rfl rfl i_B 0 (by decide) wm_304 rfl rfl d_B_feed_59 ?_
    refine x_getN C0 hw 1 rfl rfl i_T 1 (by decide) wm_80 rfl rfl d_B_feed_62 ?_
    exact x_iret C0 hw (T_length_14, T_bytes_15) h rfl d_B_feed_65
  · have h := h.2 c_1
    refine lv_bipush (v := -3) hx hb d_B_feed_13 (by decide) ?_
    exact x_iret C0 hw (T_length, T_bytes) h rfl d_B_feed_15
theorem g_B_end_ : GY y_B_end_ b_B_end_ 2 (some .int) 1 := ⟨wm_340, wm_53, by decide +kernel, by decide +kernel, by decide +kernel⟩
def p_B_end_ (T_length : Int32) (x1 : Int32) (k : Int32 → Int32 → Prop) : Prop :=
  ((x1 < 0 → (k (-1 : Int32) T_length)) ∧ (¬ x1 < 0 → ((x1 ≤ T_length → (k x1 x1)) ∧ (¬ x1 ≤ T_length → (k (-1 : Int32) T_length)))))
abbrev rm_B_end_ : Room := { frames := 0, cells := 0, slots := 0, locals := 0 }
set_option maxHeartbeats 4000000 in
set_option maxRecDepth 100000 in
theorem c_B_end_ {l : Launch} {D : va_G} {ca : Nat → ClassId} {tp : Nat} {ad : Nat → Nat} {T_length : Int32} {T_bytes : Nat → Int32} {C_size : Int32} {C_given : Int32} {C_empty : Int32} {C_drafted : Int32} {C_draftedGiven : Int32} {C_block : Nat → Int32} {C_left : Nat → Int32} {C_right : Nat → Int32} {C_pivot : Nat → Int32} {C_positive : Nat → Int32} {C_negative : Nat → Int32} {C_live : Nat → Int32} {C_needed : Nat → Int32} {R_kind : Int32} {R_place : Int32} {R_at : Int32} {R_token : Int32} {R_tokenPlace : Int32} {R_number : Int32} {R_state : Int32} {R_block : Int32} {R_positive : Int32} {R_negative : Int32} {R_left : Int32} {R_right : Int32} {R_pivot : Int32} {L_of : Nat → Int32} {F_cut : Int32} {F_labelledA : Int32} {F_labelledB : Int32} {F_row : Nat → Int64} {A_root : Int32} {A_words : Nat → Int64} {A_known : Nat → Int32} {G_size : Int32} {G_variable : Nat → Int32} {G_low : Nat → Int32} {G_high : Nat → Int32} {G_numberOf : Nat → Int32} {G_nodeOf : Nat → Int32} {G_sides : Nat → Int32} {G_waiting : Nat → Int32} {B_table : Nat → Int64} {B_nextTable : Nat → Int64} {x1 : Int32} {k : Int32 → Int32 → Prop} (h : p_B_end_ T_length x1 k) :
    MTi l y_B_end_ b_B_end_ 2 (some .int) rm_B_end_ D ca tp [.ref (ad 0), .int x1] (WB ad ca T_length T_bytes C_size C_given C_empty C_drafted C_draftedGiven C_block C_left C_right C_pivot C_positive C_negative C_live C_needed R_kind R_place R_at R_token R_tokenPlace R_number R_state R_block R_positive R_negative R_left R_right R_pivot L_of F_cut F_labelledA F_labelledB F_row A_root A_words A_known G_size G_variable G_low G_high G_numberOf G_nodeOf G_sides G_waiting B_table B_nextTable)
      (fun r (u : Int32) => k r u)
      (fun (u : Int32) => WB ad ca u T_bytes C_size C_given C_empty C_drafted C_draftedGiven C_block C_left C_right C_pivot C_positive C_negative C_live C_needed R_kind R_place R_at R_token R_tokenPlace R_number R_state R_block R_positive R_negative R_left R_right R_pivot L_of F_cut F_labelledA F_labelledB F_row A_root A_words A_known G_size G_variable G_low G_high G_numberOf G_nodeOf G_sides G_waiting B_table B_nextTable) 0 0 := by
  refine x_entryi (own := R_B) (nm := "end") (by decide) rfl rfl (Nat.le_of_ble_eq_true rfl) (fun p e s m below meth c A ls C0 hw hl => ?_)
  have hx := C0.1
  have hb := C0.2.1
  have hl : lv_has ls 2 [(0, .ref (ad 0)), (1, .int x1)] := hl
  unfold p_B_end_ at h
  refine lv_iload_n hx hb d_B_end__0 rfl (lv_at hl 1 rfl) ?_
  refine lv_if_lt (tgt := 15) hx hb d_B_end__1 (by decide) (fun c_1 => ?_) (fun c_1 => ?_)
  · have h := h.1 c_1
    refine lv_iconst (v := -1) hx hb d_B_end__15 (by decide) ?_
    exact x_iret C0 hw T_length h rfl d_B_end__16
  · have h := h.2 c_1
    refine lv_iload_n hx hb d_B_end__4 rfl (lv_at hl 1 rfl) ?_
    refine lv_aload_n hx hb d_B_end__5 rfl (lv_at hl 0 rfl) ?_
    refine x_get C0 hw 0 rfl rfl i_B 0 (by decide) wm_304 rfl rfl d_B_end__6 ?_
    refine x_getN C0 hw 1 rfl rfl i_T 1 (by decide) wm_80 rfl rfl d_B_end__9 ?_
    refine lv_icmp_le (tgt := 17) hx hb d_B_end__12 (by decide) (fun c_2 => ?_) (fun c_2 => ?_)
    · have h := h.1 c_2
      refine lv_aload_n hx hb d_B_end__17 rfl (lv_at hl 0 rfl) ?_
      refine x_get C0 hw 0 rfl rfl i_B 0 (by decide) wm_304 rfl rfl d_B_end__18 ?_
      refine lv_iload_n hx hb d_B_end__21 rfl (lv_at hl 1 rfl) ?_
      refine x_putN C0 hw 1 rfl rfl i_T tk_T n_T 1 (by decide) wm_80 rfl rfl rfl rfl (Nat.le_of_ble_eq_true rfl) (ws' := WB ad ca x1 T_bytes C_size C_given C_empty C_drafted C_draftedGiven C_block C_left C_right C_pivot C_positive C_negative C_live C_needed R_kind R_place R_at R_token R_tokenPlace R_number R_state R_block R_positive R_negative R_left R_right R_pivot L_of F_cut F_labelledA F_labelledB F_row A_root A_words A_known G_size G_variable G_low G_high G_numberOf G_nodeOf G_sides G_waiting B_table B_nextTable) rfl d_B_end__22 (fun H locs hw => ?_)
      refine lv_iload_n hx hb d_B_end__25 rfl (lv_at hl 1 rfl) ?_
      exact x_iret C0 hw x1 h rfl d_B_end__26
    · have h := h.2 c_2
      refine lv_iconst (v := -1) hx hb d_B_end__15 (by decide) ?_
      exact x_iret C0 hw T_length h rfl d_B_end__16
theorem g_B_read : GY y_B_read b_B_read 1 (some .int) 0 := ⟨wm_344, wm_53, by decide +kernel, by decide +kernel, by decide +kernel⟩
def p_B_read (T_length : Int32) (T_bytes : Nat → Int32) (C_size : Int32) (C_given : Int32) (C_empty : Int32) (C_block : Nat → Int32) (C_left : Nat → Int32) (C_right : Nat → Int32) (C_pivot : Nat → Int32) (C_positive : Nat → Int32) (C_negative : Nat → Int32) (C_live : Nat → Int32) (C_needed : Nat → Int32) (R_tokenPlace : Int32) (R_number : Int32) (R_block : Int32) (R_positive : Int32) (R_negative : Int32) (R_left : Int32) (R_right : Int32) (R_pivot : Int32) (k : Int32 → Int32 → Int32 → Int32 → Int32 → Int32 → Int32 → (Nat → Int32) → (Nat → Int32) → (Nat → Int32) → (Nat → Int32) → (Nat → Int32) → (Nat → Int32) → (Nat → Int32) → (Nat → Int32) → Int32 → Int32 → Int32 → Int32 → Int32 → Int32 → Int32 → Int32 → Int32 → Int32 → Int32 → Int32 → Int32 → Prop) : Prop :=
  (p_R_readText T_length T_bytes C_size C_given C_block C_left C_right C_pivot C_positive C_negative C_live R_tokenPlace R_number R_block R_positive R_negative R_left R_right R_pivot (fun (C_drafted_1 : Int32) (C_draftedGiven_2 : Int32) (C_block_3 : Nat → Int32) (C_left_4 : Nat → Int32) (C_right_5 : Nat → Int32) (C_pivot_6 : Nat → Int32) (C_positive_7 : Nat → Int32) (C_negative_8 : Nat → Int32) (C_live_9 : Nat → Int32) (R_kind_10 : Int32) (R_place_11 : Int32) (R_at_12 : Int32) (R_token_13 : Int32) (R_tokenPlace_14 : Int32) (R_number_15 : Int32) (R_state_16 : Int32) (R_block_17 : Int32) (R_positive_18 : Int32) (R_negative_19 : Int32) (R_left_20 : Int32) (R_right_21 : Int32) (R_pivot_22 : Int32) => ((¬ R_kind_10 = 0 → (k (-1 : Int32) (0 : Int32) C_size C_given C_empty C_drafted_1 C_draftedGiven_2 C_block_3 C_left_4 C_right_5 C_pivot_6 C_positive_7 C_negative_8 C_live_9 C_needed R_kind_10 R_place_11 R_at_12 R_token_13 R_tokenPlace_14 R_number_15 R_state_16 R_block_17 R_positive_18 R_negative_19 R_left_20 R_right_21 R_pivot_22)) ∧ (R_kind_10 = 0 → (p_C_keepDraft C_size C_empty C_drafted_1 C_draftedGiven_2 C_block_3 C_left_4 C_right_5 C_positive_7 C_negative_8 C_needed (fun (r_29 : Int32) (C_size_25 : Int32) (C_given_26 : Int32) (C_empty_27 : Int32) (C_needed_28 : Nat → Int32) => (k r_29 (0 : Int32) C_size_25 C_given_26 C_empty_27 C_drafted_1 C_draftedGiven_2 C_block_3 C_left_4 C_right_5 C_pivot_6 C_positive_7 C_negative_8 C_live_9 C_needed_28 R_kind_10 R_place_11 R_at_12 R_token_13 R_tokenPlace_14 R_number_15 R_state_16 R_block_17 R_positive_18 R_negative_19 R_left_20 R_right_21 R_pivot_22)))))))
abbrev rm_B_read : Room := { frames := 8, cells := 0, slots := 0, locals := 167 }
set_option maxHeartbeats 4000000 in
set_option maxRecDepth 100000 in
theorem c_B_read {l : Launch} {D : va_G} {ca : Nat → ClassId} {tp : Nat} {ad : Nat → Nat} {T_length : Int32} {T_bytes : Nat → Int32} {C_size : Int32} {C_given : Int32} {C_empty : Int32} {C_drafted : Int32} {C_draftedGiven : Int32} {C_block : Nat → Int32} {C_left : Nat → Int32} {C_right : Nat → Int32} {C_pivot : Nat → Int32} {C_positive : Nat → Int32} {C_negative : Nat → Int32} {C_live : Nat → Int32} {C_needed : Nat → Int32} {R_kind : Int32} {R_place : Int32} {R_at : Int32} {R_token : Int32} {R_tokenPlace : Int32} {R_number : Int32} {R_state : Int32} {R_block : Int32} {R_positive : Int32} {R_negative : Int32} {R_left : Int32} {R_right : Int32} {R_pivot : Int32} {L_of : Nat → Int32} {F_cut : Int32} {F_labelledA : Int32} {F_labelledB : Int32} {F_row : Nat → Int64} {A_root : Int32} {A_words : Nat → Int64} {A_known : Nat → Int32} {G_size : Int32} {G_variable : Nat → Int32} {G_low : Nat → Int32} {G_high : Nat → Int32} {G_numberOf : Nat → Int32} {G_nodeOf : Nat → Int32} {G_sides : Nat → Int32} {G_waiting : Nat → Int32} {B_table : Nat → Int64} {B_nextTable : Nat → Int64}  {k : Int32 → Int32 → Int32 → Int32 → Int32 → Int32 → Int32 → (Nat → Int32) → (Nat → Int32) → (Nat → Int32) → (Nat → Int32) → (Nat → Int32) → (Nat → Int32) → (Nat → Int32) → (Nat → Int32) → Int32 → Int32 → Int32 → Int32 → Int32 → Int32 → Int32 → Int32 → Int32 → Int32 → Int32 → Int32 → Int32 → Prop} (h : p_B_read T_length T_bytes C_size C_given C_empty C_block C_left C_right C_pivot C_positive C_negative C_live C_needed R_tokenPlace R_number R_block R_positive R_negative R_left R_right R_pivot k) :
    MTi l y_B_read b_B_read 1 (some .int) rm_B_read D ca tp [.ref (ad 0)] (WB ad ca T_length T_bytes C_size C_given C_empty C_drafted C_draftedGiven C_block C_left C_right C_pivot C_positive C_negative C_live C_needed R_kind R_place R_at R_token R_tokenPlace R_number R_state R_block R_positive R_negative R_left R_right R_pivot L_of F_cut F_labelledA F_labelledB F_row A_root A_words A_known G_size G_variable G_low G_high G_numberOf G_nodeOf G_sides G_waiting B_table B_nextTable)
      (fun r (u : Int32 × Int32 × Int32 × Int32 × Int32 × Int32 × (Nat → Int32) × (Nat → Int32) × (Nat → Int32) × (Nat → Int32) × (Nat → Int32) × (Nat → Int32) × (Nat → Int32) × (Nat → Int32) × Int32 × Int32 × Int32 × Int32 × Int32 × Int32 × Int32 × Int32 × Int32 × Int32 × Int32 × Int32 × Int32) => k r u.1 u.2.1 u.2.2.1 u.2.2.2.1 u.2.2.2.2.1 u.2.2.2.2.2.1 u.2.2.2.2.2.2.1 u.2.2.2.2.2.2.2.1 u.2.2.2.2.2.2.2.2.1 u.2.2.2.2.2.2.2.2.2.1 u.2.2.2.2.2.2.2.2.2.2.1 u.2.2.2.2.2.2.2.2.2.2.2.1 u.2.2.2.2.2.2.2.2.2.2.2.2.1 u.2.2.2.2.2.2.2.2.2.2.2.2.2.1 u.2.2.2.2.2.2.2.2.2.2.2.2.2.2.1 u.2.2.2.2.2.2.2.2.2.2.2.2.2.2.2.1 u.2.2.2.2.2.2.2.2.2.2.2.2.2.2.2.2.1 u.2.2.2.2.2.2.2.2.2.2.2.2.2.2.2.2.2.1 u.2.2.2.2.2.2.2.2.2.2.2.2.2.2.2.2.2.2.1 u.2.2.2.2.2.2.2.2.2.2.2.2.2.2.2.2.2.2.2.1 u.2.2.2.2.2.2.2.2.2.2.2.2.2.2.2.2.2.2.2.2.1 u.2.2.2.2.2.2.2.2.2.2.2.2.2.2.2.2.2.2.2.2.2.1 u.2.2.2.2.2.2.2.2.2.2.2.2.2.2.2.2.2.2.2.2.2.2.1 u.2.2.2.2.2.2.2.2.2.2.2.2.2.2.2.2.2.2.2.2.2.2.2.1 u.2.2.2.2.2.2.2.2.2.2.2.2.2.2.2.2.2.2.2.2.2.2.2.2.1 u.2.2.2.2.2.2.2.2.2.2.2.2.2.2.2.2.2.2.2.2.2.2.2.2.2.1 u.2.2.2.2.2.2.2.2.2.2.2.2.2.2.2.2.2.2.2.2.2.2.2.2.2.2)
      (fun (u : Int32 × Int32 × Int32 × Int32 × Int32 × Int32 × (Nat → Int32) × (Nat → Int32) × (Nat → Int32) × (Nat → Int32) × (Nat → Int32) × (Nat → Int32) × (Nat → Int32) × (Nat → Int32) × Int32 × Int32 × Int32 × Int32 × Int32 × Int32 × Int32 × Int32 × Int32 × Int32 × Int32 × Int32 × Int32) => WB ad ca u.1 T_bytes u.2.1 u.2.2.1 u.2.2.2.1 u.2.2.2.2.1 u.2.2.2.2.2.1 u.2.2.2.2.2.2.1 u.2.2.2.2.2.2.2.1 u.2.2.2.2.2.2.2.2.1 u.2.2.2.2.2.2.2.2.2.1 u.2.2.2.2.2.2.2.2.2.2.1 u.2.2.2.2.2.2.2.2.2.2.2.1 u.2.2.2.2.2.2.2.2.2.2.2.2.1 u.2.2.2.2.2.2.2.2.2.2.2.2.2.1 u.2.2.2.2.2.2.2.2.2.2.2.2.2.2.1 u.2.2.2.2.2.2.2.2.2.2.2.2.2.2.2.1 u.2.2.2.2.2.2.2.2.2.2.2.2.2.2.2.2.1 u.2.2.2.2.2.2.2.2.2.2.2.2.2.2.2.2.2.1 u.2.2.2.2.2.2.2.2.2.2.2.2.2.2.2.2.2.2.1 u.2.2.2.2.2.2.2.2.2.2.2.2.2.2.2.2.2.2.2.1 u.2.2.2.2.2.2.2.2.2.2.2.2.2.2.2.2.2.2.2.2.1 u.2.2.2.2.2.2.2.2.2.2.2.2.2.2.2.2.2.2.2.2.2.1 u.2.2.2.2.2.2.2.2.2.2.2.2.2.2.2.2.2.2.2.2.2.2.1 u.2.2.2.2.2.2.2.2.2.2.2.2.2.2.2.2.2.2.2.2.2.2.2.1 u.2.2.2.2.2.2.2.2.2.2.2.2.2.2.2.2.2.2.2.2.2.2.2.2.1 u.2.2.2.2.2.2.2.2.2.2.2.2.2.2.2.2.2.2.2.2.2.2.2.2.2.1 u.2.2.2.2.2.2.2.2.2.2.2.2.2.2.2.2.2.2.2.2.2.2.2.2.2.2 L_of F_cut F_labelledA F_labelledB F_row A_root A_words A_known G_size G_variable G_low G_high G_numberOf G_nodeOf G_sides G_waiting B_table B_nextTable) 0 0 := by
  refine x_entryi (own := R_B) (nm := "read") (by decide) rfl rfl (Nat.le_of_ble_eq_true rfl) (fun p e s m below meth c A ls C0 hw hl => ?_)
  have hx := C0.1
  have hb := C0.2.1
  have hl : lv_has ls 1 [(0, .ref (ad 0))] := hl
  unfold p_B_read at h
  refine lv_aload_n hx hb d_B_read_0 rfl (lv_at hl 0 rfl) ?_
  refine x_get C0 hw 0 rfl rfl i_B 2 (by decide) wm_306 rfl rfl d_B_read_1 ?_
  refine x_callVv C0 hw hl (c_R_readText h) g_R_readText wm_345 ⟨wm_347, wm_346⟩ 12 rfl rfl rfl (As := []) (rest := []) rfl rfl (Nat.le_of_ble_eq_true rfl) ⟨rfl, rfl⟩ ⟨Nat.le_of_ble_eq_true rfl, Nat.le_of_ble_eq_true rfl⟩ ⟨Nat.le_of_ble_eq_true rfl, Nat.le_of_ble_eq_true rfl⟩ d_B_read_4 (fun u H locs h hw => ?_)
  obtain ⟨C_drafted_1, C_draftedGiven_2, C_block_3, C_left_4, C_right_5, C_pivot_6, C_positive_7, C_negative_8, C_live_9, R_kind_10, R_place_11, R_at_12, R_token_13, R_tokenPlace_14, R_number_15, R_state_16, R_block_17, R_positive_18, R_negative_19, R_left_20, R_right_21, R_pivot_22⟩ := u
  refine lv_aload_n hx hb d_B_read_7 rfl (lv_at hl 0 rfl) ?_
  refine x_get C0 hw 0 rfl rfl i_B 0 (by decide) wm_304 rfl rfl d_B_read_8 ?_
  refine lv_iconst (v := 0) hx hb d_B_read_11 (by decide) ?_
  refine x_putN C0 hw 1 rfl rfl i_T tk_T n_T 1 (by decide) wm_80 rfl rfl rfl rfl (Nat.le_of_ble_eq_true rfl) (ws' := WB ad ca (0 : Int32) T_bytes C_size C_given C_empty C_drafted_1 C_draftedGiven_2 C_block_3 C_left_4 C_right_5 C_pivot_6 C_positive_7 C_negative_8 C_live_9 C_needed R_kind_10 R_place_11 R_at_12 R_token_13 R_tokenPlace_14 R_number_15 R_state_16 R_block_17 R_positive_18 R_negative_19 R_left_20 R_right_21 R_pivot_22 L_of F_cut F_labelledA F_labelledB F_row A_root A_words A_known G_size G_variable G_low G_high G_numberOf G_nodeOf G_sides G_waiting B_table B_nextTable) rfl d_B_read_12 (fun H locs hw => ?_)
  refine lv_aload_n hx hb d_B_read_15 rfl (lv_at hl 0 rfl) ?_
  refine x_get C0 hw 0 rfl rfl i_B 2 (by decide) wm_306 rfl rfl d_B_read_16 ?_
  refine x_getN C0 hw 12 rfl rfl i_R 2 (by decide) wm_166 rfl rfl d_B_read_19 ?_
  refine lv_if_ne (tgt := 35) hx hb d_B_read_22 (by decide) (fun c_24 => ?_) (fun c_24 => ?_)
  · have h := h.1 c_24
    refine lv_iconst (v := -1) hx hb d_B_read_35 (by decide) ?_
    exact x_iret C0 hw ((0 : Int32), C_size, C_given, C_empty, C_drafted_1, C_draftedGiven_2, C_block_3, C_left_4, C_right_5, C_pivot_6, C_positive_7, C_negative_8, C_live_9, C_needed, R_kind_10, R_place_11, R_at_12, R_token_13, R_tokenPlace_14, R_number_15, R_state_16, R_block_17, R_positive_18, R_negative_19, R_left_20, R_right_21, R_pivot_22) h rfl d_B_read_36
  · have h := h.2 c_24
    refine lv_aload_n hx hb d_B_read_25 rfl (lv_at hl 0 rfl) ?_
    refine x_get C0 hw 0 rfl rfl i_B 1 (by decide) wm_305 rfl rfl d_B_read_26 ?_
    refine x_callVi C0 hw hl (c_C_keepDraft h) g_C_keepDraft wm_484 ⟨wm_486, wm_485⟩ 3 rfl rfl rfl (As := []) (rest := []) rfl rfl (Nat.le_of_ble_eq_true rfl) ⟨rfl, rfl⟩ ⟨Nat.le_of_ble_eq_true rfl, Nat.le_of_ble_eq_true rfl⟩ ⟨Nat.le_of_ble_eq_true rfl, Nat.le_of_ble_eq_true rfl⟩ d_B_read_29 (fun r_29 u H locs h hw => ?_)
    obtain ⟨C_size_25, C_given_26, C_empty_27, C_needed_28⟩ := u
    refine lv_goto (tgt := 36) hx hb d_B_read_32 (by decide) ?_
    exact x_iret C0 hw ((0 : Int32), C_size_25, C_given_26, C_empty_27, C_drafted_1, C_draftedGiven_2, C_block_3, C_left_4, C_right_5, C_pivot_6, C_positive_7, C_negative_8, C_live_9, C_needed_28, R_kind_10, R_place_11, R_at_12, R_token_13, R_tokenPlace_14, R_number_15, R_state_16, R_block_17, R_positive_18, R_negative_19, R_left_20, R_right_21, R_pivot_22) h rfl d_B_read_36
theorem g_B_fault : GY y_B_fault b_B_fault 2 (some .int) 1 := ⟨wm_499, wm_53, by decide +kernel, by decide +kernel, by decide +kernel⟩
def p_B_fault (R_kind : Int32) (R_place : Int32) (x1 : Int32) (k : Int32 → Prop) : Prop :=
  ((x1 = (0 : Int32) → (k R_kind)) ∧ (x1 = (1 : Int32) → (k R_place)) ∧ (¬ x1 = (0 : Int32) → ¬ x1 = (1 : Int32) → (k (-1 : Int32))))
abbrev rm_B_fault : Room := { frames := 0, cells := 0, slots := 0, locals := 0 }
set_option maxHeartbeats 4000000 in
set_option maxRecDepth 100000 in
theorem c_B_fault {l : Launch} {D : va_G} {ca : Nat → ClassId} {tp : Nat} {ad : Nat → Nat} {T_length : Int32} {T_bytes : Nat → Int32} {C_size : Int32} {C_given : Int32} {C_empty : Int32} {C_drafted : Int32} {C_draftedGiven : Int32} {C_block : Nat → Int32} {C_left : Nat → Int32} {C_right : Nat → Int32} {C_pivot : Nat → Int32} {C_positive : Nat → Int32} {C_negative : Nat → Int32} {C_live : Nat → Int32} {C_needed : Nat → Int32} {R_kind : Int32} {R_place : Int32} {R_at : Int32} {R_token : Int32} {R_tokenPlace : Int32} {R_number : Int32} {R_state : Int32} {R_block : Int32} {R_positive : Int32} {R_negative : Int32} {R_left : Int32} {R_right : Int32} {R_pivot : Int32} {L_of : Nat → Int32} {F_cut : Int32} {F_labelledA : Int32} {F_labelledB : Int32} {F_row : Nat → Int64} {A_root : Int32} {A_words : Nat → Int64} {A_known : Nat → Int32} {G_size : Int32} {G_variable : Nat → Int32} {G_low : Nat → Int32} {G_high : Nat → Int32} {G_numberOf : Nat → Int32} {G_nodeOf : Nat → Int32} {G_sides : Nat → Int32} {G_waiting : Nat → Int32} {B_table : Nat → Int64} {B_nextTable : Nat → Int64} {x1 : Int32} {k : Int32 → Prop} (h : p_B_fault R_kind R_place x1 k) :
    MTi l y_B_fault b_B_fault 2 (some .int) rm_B_fault D ca tp [.ref (ad 0), .int x1] (WB ad ca T_length T_bytes C_size C_given C_empty C_drafted C_draftedGiven C_block C_left C_right C_pivot C_positive C_negative C_live C_needed R_kind R_place R_at R_token R_tokenPlace R_number R_state R_block R_positive R_negative R_left R_right R_pivot L_of F_cut F_labelledA F_labelledB F_row A_root A_words A_known G_size G_variable G_low G_high G_numberOf G_nodeOf G_sides G_waiting B_table B_nextTable)
      (fun r (_ : Unit) => k r)
      (fun (_ : Unit) => WB ad ca T_length T_bytes C_size C_given C_empty C_drafted C_draftedGiven C_block C_left C_right C_pivot C_positive C_negative C_live C_needed R_kind R_place R_at R_token R_tokenPlace R_number R_state R_block R_positive R_negative R_left R_right R_pivot L_of F_cut F_labelledA F_labelledB F_row A_root A_words A_known G_size G_variable G_low G_high G_numberOf G_nodeOf G_sides G_waiting B_table B_nextTable) 0 0 := by
  refine x_entryi (own := R_B) (nm := "fault") (by decide) rfl rfl (Nat.le_of_ble_eq_true rfl) (fun p e s m below meth c A ls C0 hw hl => ?_)
  have hx := C0.1
  have hb := C0.2.1
  have hl : lv_has ls 2 [(0, .ref (ad 0)), (1, .int x1)] := hl
  unfold p_B_fault at h
  refine lv_iload_n hx hb d_B_fault_0 rfl (lv_at hl 1 rfl) ?_
  by_cases c_1 : x1 = (0 : Int32)
  · have h := h.1 c_1
    refine lv_lookup (tgt := 28) (off := 27) hx hb d_B_fault_1 (by decide) (by rw [c_1]; rfl) (by decide) ?_
    refine lv_aload_n hx hb d_B_fault_28 rfl (lv_at hl 0 rfl) ?_
    refine x_get C0 hw 0 rfl rfl i_B 2 (by decide) wm_306 rfl rfl d_B_fault_29 ?_
    refine x_getN C0 hw 12 rfl rfl i_R 2 (by decide) wm_166 rfl rfl d_B_fault_32 ?_
    exact x_iret C0 hw () h rfl d_B_fault_35
  by_cases c_2 : x1 = (1 : Int32)
  · have h := h.2.1 c_2
    refine lv_lookup (tgt := 36) (off := 35) hx hb d_B_fault_1 (by decide) (by rw [c_2]; rfl) (by decide) ?_
    refine lv_aload_n hx hb d_B_fault_36 rfl (lv_at hl 0 rfl) ?_
    refine x_get C0 hw 0 rfl rfl i_B 2 (by decide) wm_306 rfl rfl d_B_fault_37 ?_
    refine x_getN C0 hw 12 rfl rfl i_R 3 (by decide) wm_168 rfl rfl d_B_fault_40 ?_
    exact x_iret C0 hw () h rfl d_B_fault_43
  have h := h.2.2 c_1 c_2
  refine lv_lookup (tgt := 44) (off := 43) hx hb d_B_fault_1 (by decide) ((lv_osw c_1 rfl).trans ((lv_osw c_2 rfl).trans rfl)) (by decide) ?_
  refine lv_iconst (v := -1) hx hb d_B_fault_44 (by decide) ?_
  exact x_iret C0 hw () h rfl d_B_fault_45
theorem g_B_clear : GY y_B_clear b_B_clear 2 (some .int) 0 := ⟨wm_503, wm_53, by decide +kernel, by decide +kernel, by decide +kernel⟩
def p_B_clear (C_size : Int32) (L_of : Nat → Int32) (k : Int32 → Int32 → Int32 → Int32 → (Nat → Int32) → Prop) : Prop :=
  (p_C_removeAll (fun (C_size_1 : Int32) (C_given_2 : Int32) (C_empty_3 : Int32) => (p_L_reset L_of (fun (L_of_5 : Nat → Int32) => (k C_size C_size_1 C_given_2 C_empty_3 L_of_5)))))
abbrev rm_B_clear : Room := { frames := 2, cells := 0, slots := 0, locals := 43 }
set_option maxHeartbeats 4000000 in
set_option maxRecDepth 100000 in
theorem c_B_clear {l : Launch} {D : va_G} {ca : Nat → ClassId} {tp : Nat} {ad : Nat → Nat} {T_length : Int32} {T_bytes : Nat → Int32} {C_size : Int32} {C_given : Int32} {C_empty : Int32} {C_drafted : Int32} {C_draftedGiven : Int32} {C_block : Nat → Int32} {C_left : Nat → Int32} {C_right : Nat → Int32} {C_pivot : Nat → Int32} {C_positive : Nat → Int32} {C_negative : Nat → Int32} {C_live : Nat → Int32} {C_needed : Nat → Int32} {R_kind : Int32} {R_place : Int32} {R_at : Int32} {R_token : Int32} {R_tokenPlace : Int32} {R_number : Int32} {R_state : Int32} {R_block : Int32} {R_positive : Int32} {R_negative : Int32} {R_left : Int32} {R_right : Int32} {R_pivot : Int32} {L_of : Nat → Int32} {F_cut : Int32} {F_labelledA : Int32} {F_labelledB : Int32} {F_row : Nat → Int64} {A_root : Int32} {A_words : Nat → Int64} {A_known : Nat → Int32} {G_size : Int32} {G_variable : Nat → Int32} {G_low : Nat → Int32} {G_high : Nat → Int32} {G_numberOf : Nat → Int32} {G_nodeOf : Nat → Int32} {G_sides : Nat → Int32} {G_waiting : Nat → Int32} {B_table : Nat → Int64} {B_nextTable : Nat → Int64}  {k : Int32 → Int32 → Int32 → Int32 → (Nat → Int32) → Prop} (h : p_B_clear C_size L_of k) :
    MTi l y_B_clear b_B_clear 2 (some .int) rm_B_clear D ca tp [.ref (ad 0)] (WB ad ca T_length T_bytes C_size C_given C_empty C_drafted C_draftedGiven C_block C_left C_right C_pivot C_positive C_negative C_live C_needed R_kind R_place R_at R_token R_tokenPlace R_number R_state R_block R_positive R_negative R_left R_right R_pivot L_of F_cut F_labelledA F_labelledB F_row A_root A_words A_known G_size G_variable G_low G_high G_numberOf G_nodeOf G_sides G_waiting B_table B_nextTable)
      (fun r (u : Int32 × Int32 × Int32 × (Nat → Int32)) => k r u.1 u.2.1 u.2.2.1 u.2.2.2)
      (fun (u : Int32 × Int32 × Int32 × (Nat → Int32)) => WB ad ca T_length T_bytes u.1 u.2.1 u.2.2.1 C_drafted C_draftedGiven C_block C_left C_right C_pivot C_positive C_negative C_live C_needed R_kind R_place R_at R_token R_tokenPlace R_number R_state R_block R_positive R_negative R_left R_right R_pivot u.2.2.2 F_cut F_labelledA F_labelledB F_row A_root A_words A_known G_size G_variable G_low G_high G_numberOf G_nodeOf G_sides G_waiting B_table B_nextTable) 0 0 := by
  refine x_entryi (own := R_B) (nm := "clear") (by decide) rfl rfl (Nat.le_of_ble_eq_true rfl) (fun p e s m below meth c A ls C0 hw hl => ?_)
  have hx := C0.1
  have hb := C0.2.1
  have hl : lv_has ls 2 [(0, .ref (ad 0))] := hl
  unfold p_B_clear at h
  refine lv_aload_n hx hb d_B_clear_0 rfl (lv_at hl 0 rfl) ?_
  refine x_get C0 hw 0 rfl rfl i_B 1 (by decide) wm_305 rfl rfl d_B_clear_1 ?_
  refine x_getN C0 hw 3 rfl rfl i_C 8 (by decide) wm_119 rfl rfl d_B_clear_4 ?_
  refine lv_istore_n (lv' := [(1, .int C_size), (0, .ref (ad 0))]) hx hb d_B_clear_7 rfl hl (by decide) rfl (fun ls hl => ?_)
  refine lv_aload_n hx hb d_B_clear_8 rfl (lv_at hl 1 rfl) ?_
  refine x_get C0 hw 0 rfl rfl i_B 1 (by decide) wm_305 rfl rfl d_B_clear_9 ?_
  refine x_callVv C0 hw hl (c_C_removeAll h) g_C_removeAll wm_504 ⟨wm_506, wm_505⟩ 3 rfl rfl rfl (As := []) (rest := []) rfl rfl (Nat.le_of_ble_eq_true rfl) ⟨rfl, rfl⟩ ⟨Nat.le_of_ble_eq_true rfl, Nat.le_of_ble_eq_true rfl⟩ ⟨Nat.le_of_ble_eq_true rfl, Nat.le_of_ble_eq_true rfl⟩ d_B_clear_12 (fun u H locs h hw => ?_)
  obtain ⟨C_size_1, C_given_2, C_empty_3⟩ := u
  refine lv_aload_n hx hb d_B_clear_15 rfl (lv_at hl 1 rfl) ?_
  refine x_get C0 hw 0 rfl rfl i_B 3 (by decide) wm_307 rfl rfl d_B_clear_16 ?_
  refine x_callVv C0 hw hl (c_L_reset h) g_L_reset wm_508 ⟨wm_510, wm_509⟩ 13 rfl rfl rfl (As := []) (rest := []) rfl rfl (Nat.le_of_ble_eq_true rfl) ⟨rfl, rfl⟩ ⟨Nat.le_of_ble_eq_true rfl, Nat.le_of_ble_eq_true rfl⟩ ⟨Nat.le_of_ble_eq_true rfl, Nat.le_of_ble_eq_true rfl⟩ d_B_clear_19 (fun u H locs h hw => ?_)
  obtain ⟨L_of_5, rfl⟩ : ∃ z, z = u := ⟨_, rfl⟩
  refine lv_iload_n hx hb d_B_clear_22 rfl (lv_at hl 0 rfl) ?_
  exact x_iret C0 hw (C_size_1, C_given_2, C_empty_3, L_of_5) h rfl d_B_clear_23
theorem g_B_clause : GY y_B_clause b_B_clause 3 (some .int) 2 := ⟨wm_515, wm_53, by decide +kernel, by decide +kernel, by decide +kernel⟩
def p_B_clause (C_size : Int32) (C_block : Nat → Int32) (C_left : Nat → Int32) (C_right : Nat → Int32) (C_pivot : Nat → Int32) (C_positive : Nat → Int32) (C_negative : Nat → Int32) (C_needed : Nat → Int32) (x1 : Int32) (x2 : Int32) (k : Int32 → Prop) : Prop :=
  ((x1 < (1 : Int32) → (k (-1 : Int32))) ∧ (¬ x1 < (1 : Int32) → ((x1 ≤ C_size → ((x2 = (0 : Int32) → (vp_in x1 201 ∧ (k (C_block x1.toNatClampNeg)))) ∧ (x2 = (1 : Int32) → (vp_in x1 201 ∧ (k (C_left x1.toNatClampNeg)))) ∧ (x2 = (2 : Int32) → (vp_in x1 201 ∧ (k (C_right x1.toNatClampNeg)))) ∧ (x2 = (3 : Int32) → (vp_in x1 201 ∧ (k (C_pivot x1.toNatClampNeg)))) ∧ (x2 = (4 : Int32) → (vp_in x1 201 ∧ (k ((C_positive x1.toNatClampNeg) ||| (C_negative x1.toNatClampNeg))))) ∧ (x2 = (5 : Int32) → (vp_in x1 201 ∧ (k (C_negative x1.toNatClampNeg)))) ∧ (x2 = (6 : Int32) → (vp_in x1 201 ∧ (((C_needed x1.toNatClampNeg) = 0 → (k (0 : Int32))) ∧ (¬ (C_needed x1.toNatClampNeg) = 0 → (k (1 : Int32)))))) ∧ (¬ x2 = (0 : Int32) → ¬ x2 = (1 : Int32) → ¬ x2 = (2 : Int32) → ¬ x2 = (3 : Int32) → ¬ x2 = (4 : Int32) → ¬ x2 = (5 : Int32) → ¬ x2 = (6 : Int32) → (k (-1 : Int32))))) ∧ (¬ x1 ≤ C_size → (k (-1 : Int32))))))
abbrev rm_B_clause : Room := { frames := 0, cells := 0, slots := 0, locals := 0 }
set_option maxHeartbeats 4000000 in
set_option maxRecDepth 100000 in
theorem c_B_clause {l : Launch} {D : va_G} {ca : Nat → ClassId} {tp : Nat} {ad : Nat → Nat} {T_length : Int32} {T_bytes : Nat → Int32} {C_size : Int32} {C_given : Int32} {C_empty : Int32} {C_drafted : Int32} {C_draftedGiven : Int32} {C_block : Nat → Int32} {C_left : Nat → Int32} {C_right : Nat → Int32} {C_pivot : Nat → Int32} {C_positive : Nat → Int32} {C_negative : Nat → Int32} {C_live : Nat → Int32} {C_needed : Nat → Int32} {R_kind : Int32} {R_place : Int32} {R_at : Int32} {R_token : Int32} {R_tokenPlace : Int32} {R_number : Int32} {R_state : Int32} {R_block : Int32} {R_positive : Int32} {R_negative : Int32} {R_left : Int32} {R_right : Int32} {R_pivot : Int32} {L_of : Nat → Int32} {F_cut : Int32} {F_labelledA : Int32} {F_labelledB : Int32} {F_row : Nat → Int64} {A_root : Int32} {A_words : Nat → Int64} {A_known : Nat → Int32} {G_size : Int32} {G_variable : Nat → Int32} {G_low : Nat → Int32} {G_high : Nat → Int32} {G_numberOf : Nat → Int32} {G_nodeOf : Nat → Int32} {G_sides : Nat → Int32} {G_waiting : Nat → Int32} {B_table : Nat → Int64} {B_nextTable : Nat → Int64} {x1 : Int32} {x2 : Int32} {k : Int32 → Prop} (h : p_B_clause C_size C_block C_left C_right C_pivot C_positive C_negative C_needed x1 x2 k) :
    MTi l y_B_clause b_B_clause 3 (some .int) rm_B_clause D ca tp [.ref (ad 0), .int x1, .int x2] (WB ad ca T_length T_bytes C_size C_given C_empty C_drafted C_draftedGiven C_block C_left C_right C_pivot C_positive C_negative C_live C_needed R_kind R_place R_at R_token R_tokenPlace R_number R_state R_block R_positive R_negative R_left R_right R_pivot L_of F_cut F_labelledA F_labelledB F_row A_root A_words A_known G_size G_variable G_low G_high G_numberOf G_nodeOf G_sides G_waiting B_table B_nextTable)
      (fun r (_ : Unit) => k r)
      (fun (_ : Unit) => WB ad ca T_length T_bytes C_size C_given C_empty C_drafted C_draftedGiven C_block C_left C_right C_pivot C_positive C_negative C_live C_needed R_kind R_place R_at R_token R_tokenPlace R_number R_state R_block R_positive R_negative R_left R_right R_pivot L_of F_cut F_labelledA F_labelledB F_row A_root A_words A_known G_size G_variable G_low G_high G_numberOf G_nodeOf G_sides G_waiting B_table B_nextTable) 0 0 := by
  refine x_entryi (own := R_B) (nm := "clause") (by decide) rfl rfl (Nat.le_of_ble_eq_true rfl) (fun p e s m below meth c A ls C0 hw hl => ?_)
  have hx := C0.1
  have hb := C0.2.1
  have hl : lv_has ls 3 [(0, .ref (ad 0)), (1, .int x1), (2, .int x2)] := hl
  unfold p_B_clause at h
  refine lv_iload_n hx hb d_B_clause_0 rfl (lv_at hl 1 rfl) ?_
  refine lv_iconst (v := 1) hx hb d_B_clause_1 (by decide) ?_
  refine lv_icmp_lt (tgt := 16) hx hb d_B_clause_2 (by decide) (fun c_1 => ?_) (fun c_1 => ?_)
  · have h := h.1 c_1
    refine lv_iconst (v := -1) hx hb d_B_clause_16 (by decide) ?_
    exact x_iret C0 hw () h rfl d_B_clause_17
  · have h := h.2 c_1
    refine lv_iload_n hx hb d_B_clause_5 rfl (lv_at hl 1 rfl) ?_
    refine lv_aload_n hx hb d_B_clause_6 rfl (lv_at hl 0 rfl) ?_
    refine x_get C0 hw 0 rfl rfl i_B 1 (by decide) wm_305 rfl rfl d_B_clause_7 ?_
    refine x_getN C0 hw 3 rfl rfl i_C 8 (by decide) wm_119 rfl rfl d_B_clause_10 ?_
    refine lv_icmp_le (tgt := 18) hx hb d_B_clause_13 (by decide) (fun c_2 => ?_) (fun c_2 => ?_)
    · have h := h.1 c_2
      refine lv_iload_n hx hb d_B_clause_18 rfl (lv_at hl 2 rfl) ?_
      by_cases c_3 : x2 = (0 : Int32)
      · have h := h.1 c_3
        refine lv_tableIn (tgt := 60) (off := 41) hx hb d_B_clause_19 (by rw [c_3]; decide) (by rw [c_3]; decide) (by rw [c_3]; rfl) (by decide) ?_
        refine lv_aload_n hx hb d_B_clause_60 rfl (lv_at hl 0 rfl) ?_
        refine x_get C0 hw 0 rfl rfl i_B 1 (by decide) wm_305 rfl rfl d_B_clause_61 ?_
        refine x_getN C0 hw 3 rfl rfl i_C 0 (by decide) wm_97 rfl rfl d_B_clause_64 ?_
        refine lv_iload_n hx hb d_B_clause_67 rfl (lv_at hl 1 rfl) ?_
        obtain ⟨hi_4, h⟩ := h
        refine x_iald C0 hw 4 rfl hi_4 d_B_clause_68 ?_
        exact x_iret C0 hw () h rfl d_B_clause_69
      by_cases c_5 : x2 = (1 : Int32)
      · have h := h.2.1 c_5
        refine lv_tableIn (tgt := 70) (off := 51) hx hb d_B_clause_19 (by rw [c_5]; decide) (by rw [c_5]; decide) (by rw [c_5]; rfl) (by decide) ?_
        refine lv_aload_n hx hb d_B_clause_70 rfl (lv_at hl 0 rfl) ?_
        refine x_get C0 hw 0 rfl rfl i_B 1 (by decide) wm_305 rfl rfl d_B_clause_71 ?_
        refine x_getN C0 hw 3 rfl rfl i_C 1 (by decide) wm_100 rfl rfl d_B_clause_74 ?_
        refine lv_iload_n hx hb d_B_clause_77 rfl (lv_at hl 1 rfl) ?_
        obtain ⟨hi_6, h⟩ := h
        refine x_iald C0 hw 5 rfl hi_6 d_B_clause_78 ?_
        exact x_iret C0 hw () h rfl d_B_clause_79
      by_cases c_7 : x2 = (2 : Int32)
      · have h := h.2.2.1 c_7
        refine lv_tableIn (tgt := 80) (off := 61) hx hb d_B_clause_19 (by rw [c_7]; decide) (by rw [c_7]; decide) (by rw [c_7]; rfl) (by decide) ?_
        refine lv_aload_n hx hb d_B_clause_80 rfl (lv_at hl 0 rfl) ?_
        refine x_get C0 hw 0 rfl rfl i_B 1 (by decide) wm_305 rfl rfl d_B_clause_81 ?_
        refine x_getN C0 hw 3 rfl rfl i_C 2 (by decide) wm_103 rfl rfl d_B_clause_84 ?_
        refine lv_iload_n hx hb d_B_clause_87 rfl (lv_at hl 1 rfl) ?_
        obtain ⟨hi_8, h⟩ := h
        refine x_iald C0 hw 6 rfl hi_8 d_B_clause_88 ?_
        exact x_iret C0 hw () h rfl d_B_clause_89
      by_cases c_9 : x2 = (3 : Int32)
      · have h := h.2.2.2.1 c_9
        refine lv_tableIn (tgt := 90) (off := 71) hx hb d_B_clause_19 (by rw [c_9]; decide) (by rw [c_9]; decide) (by rw [c_9]; rfl) (by decide) ?_
        refine lv_aload_n hx hb d_B_clause_90 rfl (lv_at hl 0 rfl) ?_
        refine x_get C0 hw 0 rfl rfl i_B 1 (by decide) wm_305 rfl rfl d_B_clause_91 ?_
        refine x_getN C0 hw 3 rfl rfl i_C 3 (by decide) wm_106 rfl rfl d_B_clause_94 ?_
        refine lv_iload_n hx hb d_B_clause_97 rfl (lv_at hl 1 rfl) ?_
        obtain ⟨hi_10, h⟩ := h
        refine x_iald C0 hw 7 rfl hi_10 d_B_clause_98 ?_
        exact x_iret C0 hw () h rfl d_B_clause_99
      by_cases c_11 : x2 = (4 : Int32)
      · have h := h.2.2.2.2.1 c_11
        refine lv_tableIn (tgt := 100) (off := 81) hx hb d_B_clause_19 (by rw [c_11]; decide) (by rw [c_11]; decide) (by rw [c_11]; rfl) (by decide) ?_
        refine lv_aload_n hx hb d_B_clause_100 rfl (lv_at hl 0 rfl) ?_
        refine x_get C0 hw 0 rfl rfl i_B 1 (by decide) wm_305 rfl rfl d_B_clause_101 ?_
        refine x_getN C0 hw 3 rfl rfl i_C 4 (by decide) wm_109 rfl rfl d_B_clause_104 ?_
        refine lv_iload_n hx hb d_B_clause_107 rfl (lv_at hl 1 rfl) ?_
        obtain ⟨hi_12, h⟩ := h
        refine x_iald C0 hw 8 rfl hi_12 d_B_clause_108 ?_
        refine lv_aload_n hx hb d_B_clause_109 rfl (lv_at hl 0 rfl) ?_
        refine x_get C0 hw 0 rfl rfl i_B 1 (by decide) wm_305 rfl rfl d_B_clause_110 ?_
        refine x_getN C0 hw 3 rfl rfl i_C 5 (by decide) wm_112 rfl rfl d_B_clause_113 ?_
        refine lv_iload_n hx hb d_B_clause_116 rfl (lv_at hl 1 rfl) ?_
        refine x_iald C0 hw 9 rfl hi_12 d_B_clause_117 ?_
        refine lv_ior hx hb d_B_clause_118 ?_
        exact x_iret C0 hw () h rfl d_B_clause_119
      by_cases c_13 : x2 = (5 : Int32)
      · have h := h.2.2.2.2.2.1 c_13
        refine lv_tableIn (tgt := 120) (off := 101) hx hb d_B_clause_19 (by rw [c_13]; decide) (by rw [c_13]; decide) (by rw [c_13]; rfl) (by decide) ?_
        refine lv_aload_n hx hb d_B_clause_120 rfl (lv_at hl 0 rfl) ?_
        refine x_get C0 hw 0 rfl rfl i_B 1 (by decide) wm_305 rfl rfl d_B_clause_121 ?_
        refine x_getN C0 hw 3 rfl rfl i_C 5 (by decide) wm_112 rfl rfl d_B_clause_124 ?_
        refine lv_iload_n hx hb d_B_clause_127 rfl (lv_at hl 1 rfl) ?_
        obtain ⟨hi_14, h⟩ := h
        refine x_iald C0 hw 9 rfl hi_14 d_B_clause_128 ?_
        exact x_iret C0 hw () h rfl d_B_clause_129
      by_cases c_15 : x2 = (6 : Int32)
      · have h := h.2.2.2.2.2.2.1 c_15
        refine lv_tableIn (tgt := 130) (off := 111) hx hb d_B_clause_19 (by rw [c_15]; decide) (by rw [c_15]; decide) (by rw [c_15]; rfl) (by decide) ?_
        refine lv_aload_n hx hb d_B_clause_130 rfl (lv_at hl 0 rfl) ?_
        refine x_get C0 hw 0 rfl rfl i_B 1 (by decide) wm_305 rfl rfl d_B_clause_131 ?_
        refine x_getN C0 hw 3 rfl rfl i_C 7 (by decide) wm_117 rfl rfl d_B_clause_134 ?_
        refine lv_iload_n hx hb d_B_clause_137 rfl (lv_at hl 1 rfl) ?_
        obtain ⟨hi_16, h⟩ := h
        refine x_zald C0 hw 11 rfl hi_16 d_B_clause_138 ?_
        refine lv_if_eq (tgt := 146) hx hb d_B_clause_139 (by decide) (fun c_17 => ?_) (fun c_17 => ?_)
        · have h := h.1 c_17
          refine lv_iconst (v := 0) hx hb d_B_clause_146 (by decide) ?_
          exact x_iret C0 hw () h rfl d_B_clause_147
        · have h := h.2 c_17
          refine lv_iconst (v := 1) hx hb d_B_clause_142 (by decide) ?_
          refine lv_goto (tgt := 147) hx hb d_B_clause_143 (by decide) ?_
          exact x_iret C0 hw () h rfl d_B_clause_147
      have h := h.2.2.2.2.2.2.2 c_3 c_5 c_7 c_9 c_11 c_13 c_15
      refine lv_tableOut (tgt := 148) hx hb d_B_clause_19 (by have q0 := lv_neT c_3 (a := 0) rfl; have q1 := lv_neT c_5 (a := 1) rfl; have q2 := lv_neT c_7 (a := 2) rfl; have q3 := lv_neT c_9 (a := 3) rfl; have q4 := lv_neT c_11 (a := 4) rfl; have q5 := lv_neT c_13 (a := 5) rfl; have q6 := lv_neT c_15 (a := 6) rfl; omega) (by decide) ?_
      refine lv_iconst (v := -1) hx hb d_B_clause_148 (by decide) ?_
      exact x_iret C0 hw () h rfl d_B_clause_149
    · have h := h.2 c_2
      refine lv_iconst (v := -1) hx hb d_B_clause_16 (by decide) ?_
      exact x_iret C0 hw () h rfl d_B_clause_17
theorem g_B_refutation : GY y_B_refutation b_B_refutation 1 (some .int) 0 := ⟨wm_519, wm_53, by decide +kernel, by decide +kernel, by decide +kernel⟩
def p_B_refutation (C_empty : Int32) (k : Int32 → Prop) : Prop :=
  ((¬ C_empty = 0 → (k C_empty)) ∧ (C_empty = 0 → (k (-1 : Int32))))
abbrev rm_B_refutation : Room := { frames := 0, cells := 0, slots := 0, locals := 0 }
set_option maxHeartbeats 4000000 in
set_option maxRecDepth 100000 in
theorem c_B_refutation {l : Launch} {D : va_G} {ca : Nat → ClassId} {tp : Nat} {ad : Nat → Nat} {T_length : Int32} {T_bytes : Nat → Int32} {C_size : Int32} {C_given : Int32} {C_empty : Int32} {C_drafted : Int32} {C_draftedGiven : Int32} {C_block : Nat → Int32} {C_left : Nat → Int32} {C_right : Nat → Int32} {C_pivot : Nat → Int32} {C_positive : Nat → Int32} {C_negative : Nat → Int32} {C_live : Nat → Int32} {C_needed : Nat → Int32} {R_kind : Int32} {R_place : Int32} {R_at : Int32} {R_token : Int32} {R_tokenPlace : Int32} {R_number : Int32} {R_state : Int32} {R_block : Int32} {R_positive : Int32} {R_negative : Int32} {R_left : Int32} {R_right : Int32} {R_pivot : Int32} {L_of : Nat → Int32} {F_cut : Int32} {F_labelledA : Int32} {F_labelledB : Int32} {F_row : Nat → Int64} {A_root : Int32} {A_words : Nat → Int64} {A_known : Nat → Int32} {G_size : Int32} {G_variable : Nat → Int32} {G_low : Nat → Int32} {G_high : Nat → Int32} {G_numberOf : Nat → Int32} {G_nodeOf : Nat → Int32} {G_sides : Nat → Int32} {G_waiting : Nat → Int32} {B_table : Nat → Int64} {B_nextTable : Nat → Int64}  {k : Int32 → Prop} (h : p_B_refutation C_empty k) :
    MTi l y_B_refutation b_B_refutation 1 (some .int) rm_B_refutation D ca tp [.ref (ad 0)] (WB ad ca T_length T_bytes C_size C_given C_empty C_drafted C_draftedGiven C_block C_left C_right C_pivot C_positive C_negative C_live C_needed R_kind R_place R_at R_token R_tokenPlace R_number R_state R_block R_positive R_negative R_left R_right R_pivot L_of F_cut F_labelledA F_labelledB F_row A_root A_words A_known G_size G_variable G_low G_high G_numberOf G_nodeOf G_sides G_waiting B_table B_nextTable)
      (fun r (_ : Unit) => k r)
      (fun (_ : Unit) => WB ad ca T_length T_bytes C_size C_given C_empty C_drafted C_draftedGiven C_block C_left C_right C_pivot C_positive C_negative C_live C_needed R_kind R_place R_at R_token R_tokenPlace R_number R_state R_block R_positive R_negative R_left R_right R_pivot L_of F_cut F_labelledA F_labelledB F_row A_root A_words A_known G_size G_variable G_low G_high G_numberOf G_nodeOf G_sides G_waiting B_table B_nextTable) 0 0 := by
  refine x_entryi (own := R_B) (nm := "refutation") (by decide) rfl rfl (Nat.le_of_ble_eq_true rfl) (fun p e s m below meth c A ls C0 hw hl => ?_)
  have hx := C0.1
  have hb := C0.2.1
  have hl : lv_has ls 1 [(0, .ref (ad 0))] := hl
  unfold p_B_refutation at h
  refine lv_aload_n hx hb d_B_refutation_0 rfl (lv_at hl 0 rfl) ?_
  refine x_get C0 hw 0 rfl rfl i_B 1 (by decide) wm_305 rfl rfl d_B_refutation_1 ?_
  refine x_getN C0 hw 3 rfl rfl i_C 10 (by decide) wm_124 rfl rfl d_B_refutation_4 ?_
  refine lv_if_ne (tgt := 14) hx hb d_B_refutation_7 (by decide) (fun c_1 => ?_) (fun c_1 => ?_)
  · have h := h.1 c_1
    refine lv_aload_n hx hb d_B_refutation_14 rfl (lv_at hl 0 rfl) ?_
    refine x_get C0 hw 0 rfl rfl i_B 1 (by decide) wm_305 rfl rfl d_B_refutation_15 ?_
    refine x_getN C0 hw 3 rfl rfl i_C 10 (by decide) wm_124 rfl rfl d_B_refutation_18 ?_
    exact x_iret C0 hw () h rfl d_B_refutation_21
  · have h := h.2 c_1
    refine lv_iconst (v := -1) hx hb d_B_refutation_10 (by decide) ?_
    refine lv_goto (tgt := 21) hx hb d_B_refutation_11 (by decide) ?_
    exact x_iret C0 hw () h rfl d_B_refutation_21
theorem g_B_eliminate : GY y_B_eliminate b_B_eliminate 2 (some .int) 1 := ⟨wm_523, wm_53, by decide +kernel, by decide +kernel, by decide +kernel⟩
def p_B_eliminate (C_size : Int32) (C_given : Int32) (C_empty : Int32) (C_drafted : Int32) (C_draftedGiven : Int32) (C_block : Nat → Int32) (C_left : Nat → Int32) (C_right : Nat → Int32) (C_pivot : Nat → Int32) (C_positive : Nat → Int32) (C_negative : Nat → Int32) (C_live : Nat → Int32) (C_needed : Nat → Int32) (x1 : Int32) (k : Int32 → Int32 → Int32 → Int32 → Int32 → Int32 → (Nat → Int32) → (Nat → Int32) → (Nat → Int32) → (Nat → Int32) → (Nat → Int32) → (Nat → Int32) → (Nat → Int32) → (Nat → Int32) → Prop) : Prop :=
  (p_B_isVariable x1 (fun (r_1 : Int32) => ((r_1 = 0 → (k (-2 : Int32) C_size C_given C_empty C_drafted C_draftedGiven C_block C_left C_right C_pivot C_positive C_negative C_live C_needed)) ∧ (¬ r_1 = 0 → (p_C_resolveAway C_size C_given C_empty C_block C_left C_right C_pivot C_positive C_negative C_live C_needed x1 (fun (r_16 : Int32) (C_size_3 : Int32) (C_given_4 : Int32) (C_empty_5 : Int32) (C_drafted_6 : Int32) (C_draftedGiven_7 : Int32) (C_block_8 : Nat → Int32) (C_left_9 : Nat → Int32) (C_right_10 : Nat → Int32) (C_pivot_11 : Nat → Int32) (C_positive_12 : Nat → Int32) (C_negative_13 : Nat → Int32) (C_live_14 : Nat → Int32) (C_needed_15 : Nat → Int32) => (k r_16 C_size_3 C_given_4 C_empty_5 C_drafted_6 C_draftedGiven_7 C_block_8 C_left_9 C_right_10 C_pivot_11 C_positive_12 C_negative_13 C_live_14 C_needed_15)))))))
abbrev rm_B_eliminate : Room := { frames := 5, cells := 0, slots := 0, locals := 115 }
set_option maxHeartbeats 4000000 in
set_option maxRecDepth 100000 in
theorem c_B_eliminate {l : Launch} {D : va_G} {ca : Nat → ClassId} {tp : Nat} {ad : Nat → Nat} {T_length : Int32} {T_bytes : Nat → Int32} {C_size : Int32} {C_given : Int32} {C_empty : Int32} {C_drafted : Int32} {C_draftedGiven : Int32} {C_block : Nat → Int32} {C_left : Nat → Int32} {C_right : Nat → Int32} {C_pivot : Nat → Int32} {C_positive : Nat → Int32} {C_negative : Nat → Int32} {C_live : Nat → Int32} {C_needed : Nat → Int32} {R_kind : Int32} {R_place : Int32} {R_at : Int32} {R_token : Int32} {R_tokenPlace : Int32} {R_number : Int32} {R_state : Int32} {R_block : Int32} {R_positive : Int32} {R_negative : Int32} {R_left : Int32} {R_right : Int32} {R_pivot : Int32} {L_of : Nat → Int32} {F_cut : Int32} {F_labelledA : Int32} {F_labelledB : Int32} {F_row : Nat → Int64} {A_root : Int32} {A_words : Nat → Int64} {A_known : Nat → Int32} {G_size : Int32} {G_variable : Nat → Int32} {G_low : Nat → Int32} {G_high : Nat → Int32} {G_numberOf : Nat → Int32} {G_nodeOf : Nat → Int32} {G_sides : Nat → Int32} {G_waiting : Nat → Int32} {B_table : Nat → Int64} {B_nextTable : Nat → Int64} {x1 : Int32} {k : Int32 → Int32 → Int32 → Int32 → Int32 → Int32 → (Nat → Int32) → (Nat → Int32) → (Nat → Int32) → (Nat → Int32) → (Nat → Int32) → (Nat → Int32) → (Nat → Int32) → (Nat → Int32) → Prop} (h : p_B_eliminate C_size C_given C_empty C_drafted C_draftedGiven C_block C_left C_right C_pivot C_positive C_negative C_live C_needed x1 k) :
    MTi l y_B_eliminate b_B_eliminate 2 (some .int) rm_B_eliminate D ca tp [.ref (ad 0), .int x1] (WB ad ca T_length T_bytes C_size C_given C_empty C_drafted C_draftedGiven C_block C_left C_right C_pivot C_positive C_negative C_live C_needed R_kind R_place R_at R_token R_tokenPlace R_number R_state R_block R_positive R_negative R_left R_right R_pivot L_of F_cut F_labelledA F_labelledB F_row A_root A_words A_known G_size G_variable G_low G_high G_numberOf G_nodeOf G_sides G_waiting B_table B_nextTable)
      (fun r (u : Int32 × Int32 × Int32 × Int32 × Int32 × (Nat → Int32) × (Nat → Int32) × (Nat → Int32) × (Nat → Int32) × (Nat → Int32) × (Nat → Int32) × (Nat → Int32) × (Nat → Int32)) => k r u.1 u.2.1 u.2.2.1 u.2.2.2.1 u.2.2.2.2.1 u.2.2.2.2.2.1 u.2.2.2.2.2.2.1 u.2.2.2.2.2.2.2.1 u.2.2.2.2.2.2.2.2.1 u.2.2.2.2.2.2.2.2.2.1 u.2.2.2.2.2.2.2.2.2.2.1 u.2.2.2.2.2.2.2.2.2.2.2.1 u.2.2.2.2.2.2.2.2.2.2.2.2)
      (fun (u : Int32 × Int32 × Int32 × Int32 × Int32 × (Nat → Int32) × (Nat → Int32) × (Nat → Int32) × (Nat → Int32) × (Nat → Int32) × (Nat → Int32) × (Nat → Int32) × (Nat → Int32)) => WB ad ca T_length T_bytes u.1 u.2.1 u.2.2.1 u.2.2.2.1 u.2.2.2.2.1 u.2.2.2.2.2.1 u.2.2.2.2.2.2.1 u.2.2.2.2.2.2.2.1 u.2.2.2.2.2.2.2.2.1 u.2.2.2.2.2.2.2.2.2.1 u.2.2.2.2.2.2.2.2.2.2.1 u.2.2.2.2.2.2.2.2.2.2.2.1 u.2.2.2.2.2.2.2.2.2.2.2.2 R_kind R_place R_at R_token R_tokenPlace R_number R_state R_block R_positive R_negative R_left R_right R_pivot L_of F_cut F_labelledA F_labelledB F_row A_root A_words A_known G_size G_variable G_low G_high G_numberOf G_nodeOf G_sides G_waiting B_table B_nextTable) 0 0 := by
  refine x_entryi (own := R_B) (nm := "eliminate") (by decide) rfl rfl (Nat.le_of_ble_eq_true rfl) (fun p e s m below meth c A ls C0 hw hl => ?_)
  have hx := C0.1
  have hb := C0.2.1
  have hl : lv_has ls 2 [(0, .ref (ad 0)), (1, .int x1)] := hl
  unfold p_B_eliminate at h
  refine lv_iload_n hx hb d_B_eliminate_0 rfl (lv_at hl 1 rfl) ?_
  refine x_callSi C0 hw hl (c_B_isVariable h) g_B_isVariable wm_524 wm_449 (As := [.int x1]) (rest := []) rfl rfl (Nat.le_of_ble_eq_true rfl) ⟨rfl, rfl⟩ ⟨Nat.le_of_ble_eq_true rfl, Nat.le_of_ble_eq_true rfl⟩ ⟨Nat.le_of_ble_eq_true rfl, Nat.le_of_ble_eq_true rfl⟩ d_B_eliminate_1 (fun r_1 u H locs h hw => ?_)
  refine lv_if_eq (tgt := 18) hx hb d_B_eliminate_4 (by decide) (fun c_2 => ?_) (fun c_2 => ?_)
  · have h := h.1 c_2
    refine lv_bipush (v := -2) hx hb d_B_eliminate_18 (by decide) ?_
    exact x_iret C0 hw (C_size, C_given, C_empty, C_drafted, C_draftedGiven, C_block, C_left, C_right, C_pivot, C_positive, C_negative, C_live, C_needed) h rfl d_B_eliminate_20
  · have h := h.2 c_2
    refine lv_aload_n hx hb d_B_eliminate_7 rfl (lv_at hl 0 rfl) ?_
    refine x_get C0 hw 0 rfl rfl i_B 1 (by decide) wm_305 rfl rfl d_B_eliminate_8 ?_
    refine lv_iload_n hx hb d_B_eliminate_11 rfl (lv_at hl 1 rfl) ?_
    refine x_callVi C0 hw hl (c_C_resolveAway h) g_C_resolveAway wm_525 ⟨wm_527, wm_526⟩ 3 rfl rfl rfl (As := [.int x1]) (rest := []) rfl rfl (Nat.le_of_ble_eq_true rfl) ⟨rfl, rfl⟩ ⟨Nat.le_of_ble_eq_true rfl, Nat.le_of_ble_eq_true rfl⟩ ⟨Nat.le_of_ble_eq_true rfl, Nat.le_of_ble_eq_true rfl⟩ d_B_eliminate_12 (fun r_16 u H locs h hw => ?_)
    obtain ⟨C_size_3, C_given_4, C_empty_5, C_drafted_6, C_draftedGiven_7, C_block_8, C_left_9, C_right_10, C_pivot_11, C_positive_12, C_negative_13, C_live_14, C_needed_15⟩ := u
    refine lv_goto (tgt := 20) hx hb d_B_eliminate_15 (by decide) ?_
    exact x_iret C0 hw (C_size_3, C_given_4, C_empty_5, C_drafted_6, C_draftedGiven_7, C_block_8, C_left_9, C_right_10, C_pivot_11, C_positive_12, C_negative_13, C_live_14, C_needed_15) h rfl d_B_eliminate_20
theorem g_B_label : GY y_B_label b_B_label 3 (some .int) 2 := ⟨wm_545, wm_53, by decide +kernel, by decide +kernel, by decide +kernel⟩
def p_B_label (L_of : Nat → Int32) (x1 : Int32) (x2 : Int32) (k : Int32 → (Nat → Int32) → Prop) : Prop :=
  (p_B_isVariable x1 (fun (r_1 : Int32) => ((r_1 = 0 → (k (-2 : Int32) L_of)) ∧ (¬ r_1 = 0 → ((x2 < (1 : Int32) → (k (-2 : Int32) L_of)) ∧ (¬ x2 < (1 : Int32) → ((x2 ≤ (3 : Int32) → (p_L_exchange L_of x1 x2 (fun (r_6 : Int32) (L_of_5 : Nat → Int32) => (k r_6 L_of_5)))) ∧ (¬ x2 ≤ (3 : Int32) → (k (-2 : Int32) L_of)))))))))
abbrev rm_B_label : Room := { frames := 1, cells := 0, slots := 0, locals := 23 }
set_option maxHeartbeats 4000000 in
set_option maxRecDepth 100000 in
theorem c_B_label {l : Launch} {D : va_G} {ca : Nat → ClassId} {tp : Nat} {ad : Nat → Nat} {T_length : Int32} {T_bytes : Nat → Int32} {C_size : Int32} {C_given : Int32} {C_empty : Int32} {C_drafted : Int32} {C_draftedGiven : Int32} {C_block : Nat → Int32} {C_left : Nat → Int32} {C_right : Nat → Int32} {C_pivot : Nat → Int32} {C_positive : Nat → Int32} {C_negative : Nat → Int32} {C_live : Nat → Int32} {C_needed : Nat → Int32} {R_kind : Int32} {R_place : Int32} {R_at : Int32} {R_token : Int32} {R_tokenPlace : Int32} {R_number : Int32} {R_state : Int32} {R_block : Int32} {R_positive : Int32} {R_negative : Int32} {R_left : Int32} {R_right : Int32} {R_pivot : Int32} {L_of : Nat → Int32} {F_cut : Int32} {F_labelledA : Int32} {F_labelledB : Int32} {F_row : Nat → Int64} {A_root : Int32} {A_words : Nat → Int64} {A_known : Nat → Int32} {G_size : Int32} {G_variable : Nat → Int32} {G_low : Nat → Int32} {G_high : Nat → Int32} {G_numberOf : Nat → Int32} {G_nodeOf : Nat → Int32} {G_sides : Nat → Int32} {G_waiting : Nat → Int32} {B_table : Nat → Int64} {B_nextTable : Nat → Int64} {x1 : Int32} {x2 : Int32} {k : Int32 → (Nat → Int32) → Prop} (h : p_B_label L_of x1 x2 k) :
    MTi l y_B_label b_B_label 3 (some .int) rm_B_label D ca tp [.ref (ad 0), .int x1, .int x2] (WB ad ca T_length T_bytes C_size C_given C_empty C_drafted C_draftedGiven C_block C_left C_right C_pivot C_positive C_negative C_live C_needed R_kind R_place R_at R_token R_tokenPlace R_number R_state R_block R_positive R_negative R_left R_right R_pivot L_of F_cut F_labelledA F_labelledB F_row A_root A_words A_known G_size G_variable G_low G_high G_numberOf G_nodeOf G_sides G_waiting B_table B_nextTable)
      (fun r (u : (Nat → Int32)) => k r u)
      (fun (u : (Nat → Int32)) => WB ad ca T_length T_bytes C_size C_given C_empty C_drafted C_draftedGiven C_block C_left C_right C_pivot C_positive C_negative C_live C_needed R_kind R_place R_at R_token R_tokenPlace R_number R_state R_block R_positive R_negative R_left R_right R_pivot u F_cut F_labelledA F_labelledB F_row A_root A_words A_known G_size G_variable G_low G_high G_numberOf G_nodeOf G_sides G_waiting B_table B_nextTable) 0 0 := by
  refine x_entryi (own := R_B) (nm := "label") (by decide) rfl rfl (Nat.le_of_ble_eq_true rfl) (fun p e s m below meth c A ls C0 hw hl => ?_)
  have hx := C0.1
  have hb := C0.2.1
  have hl : lv_has ls 3 [(0, .ref (ad 0)), (1, .int x1), (2, .int x2)] := hl
  unfold p_B_label at h
  refine lv_iload_n hx hb d_B_label_0 rfl (lv_at hl 1 rfl) ?_
  refine x_callSi C0 hw hl (c_B_isVariable h) g_B_isVariable wm_524 wm_449 (As := [.int x1]) (rest := []) rfl rfl (Nat.le_of_ble_eq_true rfl) ⟨rfl, rfl⟩ ⟨Nat.le_of_ble_eq_true rfl, Nat.le_of_ble_eq_true rfl⟩ ⟨Nat.le_of_ble_eq_true rfl, Nat.le_of_ble_eq_true rfl⟩ d_B_label_1 (fun r_1 u H locs h hw => ?_)
  refine lv_if_eq (tgt := 17) hx hb d_B_label_4 (by decide) (fun c_2 => ?_) (fun c_2 => ?_)
  · have h := h.1 c_2
    refine lv_bipush (v := -2) hx hb d_B_label_17 (by decide) ?_
    exact x_iret C0 hw L_of h rfl d_B_label_19
  · have h := h.2 c_2
    refine lv_iload_n hx hb d_B_label_7 rfl (lv_at hl 2 rfl) ?_
    refine lv_iconst (v := 1) hx hb d_B_label_8 (by decide) ?_
    refine lv_icmp_lt (tgt := 17) hx hb d_B_label_9 (by decide) (fun c_3 => ?_) (fun c_3 => ?_)
    · have h := h.1 c_3
      refine lv_bipush (v := -2) hx hb d_B_label_17 (by decide) ?_
      exact x_iret C0 hw L_of h rfl d_B_label_19
    · have h := h.2 c_3
      refine lv_iload_n hx hb d_B_label_12 rfl (lv_at hl 2 rfl) ?_
      refine lv_iconst (v := 3) hx hb d_B_label_13 (by decide) ?_
      refine lv_icmp_le (tgt := 20) hx hb d_B_label_14 (by decide) (fun c_4 => ?_) (fun c_4 => ?_)
      · have h := h.1 c_4
        refine lv_aload_n hx hb d_B_label_20 rfl (lv_at hl 0 rfl) ?_
        refine x_get C0 hw 0 rfl rfl i_B 3 (by decide) wm_307 rfl rfl d_B_label_21 ?_
        refine lv_iload_n hx hb d_B_label_24 rfl (lv_at hl 1 rfl) ?_
        refine lv_iload_n hx hb d_B_label_25 rfl (lv_at hl 2 rfl) ?_
        refine x_callVi C0 hw hl (c_L_exchange h) g_L_exchange wm_546 ⟨wm_548, wm_547⟩ 13 rfl rfl rfl (As := [.int x1, .int x2]) (rest := []) rfl rfl (Nat.le_of_ble_eq_true rfl) ⟨rfl, rfl⟩ ⟨Nat.le_of_ble_eq_true rfl, Nat.le_of_ble_eq_true rfl⟩ ⟨Nat.le_of_ble_eq_true rfl, Nat.le_of_ble_eq_true rfl⟩ d_B_label_26 (fun r_6 u H locs h hw => ?_)
        obtain ⟨L_of_5, rfl⟩ : ∃ z, z = u := ⟨_, rfl⟩
        exact x_iret C0 hw L_of_5 h rfl d_B_label_29
      · have h := h.2 c_4
        refine lv_bipush (v := -2) hx hb d_B_label_17 (by decide) ?_
        exact x_iret C0 hw L_of h rfl d_B_label_19
theorem g_B_variables : GY y_B_variables b_B_variables 5 (some .int) 2 := ⟨wm_553, wm_53, by decide +kernel, by decide +kernel, by decide +kernel⟩
def p_B_variables (C_size : Int32) (C_block : Nat → Int32) (C_positive : Nat → Int32) (C_negative : Nat → Int32) (x1 : Int32) (x2 : Int32) (k : Int32 → Prop) : Prop :=
  (p_B_isCut x1 (fun (r_1 : Int32) => ((¬ r_1 = 0 → (p_C_occurring C_size C_block C_positive C_negative (1 : Int32) x1 (fun (r_3 : Int32) => (p_C_occurring C_size C_block C_positive C_negative (x1 + (1 : Int32)) (8 : Int32) (fun (r_4 : Int32) => ((x2 = (0 : Int32) → (k r_3)) ∧ (x2 = (1 : Int32) → (k r_4)) ∧ (x2 = (2 : Int32) → (k (r_3 &&& r_4))) ∧ (¬ x2 = (0 : Int32) → ¬ x2 = (1 : Int32) → ¬ x2 = (2 : Int32) → (k (-1 : Int32))))))))) ∧ (r_1 = 0 → (k (-2 : Int32))))))
abbrev rm_B_variables : Room := { frames := 2, cells := 0, slots := 0, locals := 47 }
set_option maxHeartbeats 4000000 in
set_option maxRecDepth 100000 in
theorem c_B_variables {l : Launch} {D : va_G} {ca : Nat → ClassId} {tp : Nat} {ad : Nat → Nat} {T_length : Int32} {T_bytes : Nat → Int32} {C_size : Int32} {C_given : Int32} {C_empty : Int32} {C_drafted : Int32} {C_draftedGiven : Int32} {C_block : Nat → Int32} {C_left : Nat → Int32} {C_right : Nat → Int32} {C_pivot : Nat → Int32} {C_positive : Nat → Int32} {C_negative : Nat → Int32} {C_live : Nat → Int32} {C_needed : Nat → Int32} {R_kind : Int32} {R_place : Int32} {R_at : Int32} {R_token : Int32} {R_tokenPlace : Int32} {R_number : Int32} {R_state : Int32} {R_block : Int32} {R_positive : Int32} {R_negative : Int32} {R_left : Int32} {R_right : Int32} {R_pivot : Int32} {L_of : Nat → Int32} {F_cut : Int32} {F_labelledA : Int32} {F_labelledB : Int32} {F_row : Nat → Int64} {A_root : Int32} {A_words : Nat → Int64} {A_known : Nat → Int32} {G_size : Int32} {G_variable : Nat → Int32} {G_low : Nat → Int32} {G_high : Nat → Int32} {G_numberOf : Nat → Int32} {G_nodeOf : Nat → Int32} {G_sides : Nat → Int32} {G_waiting : Nat → Int32} {B_table : Nat → Int64} {B_nextTable : Nat → Int64} {x1 : Int32} {x2 : Int32} {k : Int32 → Prop} (h : p_B_variables C_size C_block C_positive C_negative x1 x2 k) :
    MTi l y_B_variables b_B_variables 5 (some .int) rm_B_variables D ca tp [.ref (ad 0), .int x1, .int x2] (WB ad ca T_length T_bytes C_size C_given C_empty C_drafted C_draftedGiven C_block C_left C_right C_pivot C_positive C_negative C_live C_needed R_kind R_place R_at R_token R_tokenPlace R_number R_state R_block R_positive R_negative R_left R_right R_pivot L_of F_cut F_labelledA F_labelledB F_row A_root A_words A_known G_size G_variable G_low G_high G_numberOf G_nodeOf G_sides G_waiting B_table B_nextTable)
      (fun r (_ : Unit) => k r)
      (fun (_ : Unit) => WB ad ca T_length T_bytes C_size C_given C_empty C_drafted C_draftedGiven C_block C_left C_right C_pivot C_positive C_negative C_live C_needed R_kind R_place R_at R_token R_tokenPlace R_number R_state R_block R_positive R_negative R_left R_right R_pivot L_of F_cut F_labelledA F_labelledB F_row A_root A_words A_known G_size G_variable G_low G_high G_numberOf G_nodeOf G_sides G_waiting B_table B_nextTable) 0 0 := by
  refine x_entryi (own := R_B) (nm := "variables") (by decide) rfl rfl (Nat.le_of_ble_eq_true rfl) (fun p e s m below meth c A ls C0 hw hl => ?_)
  have hx := C0.1
  have hb := C0.2.1
  have hl : lv_has ls 5 [(0, .ref (ad 0)), (1, .int x1), (2, .int x2)] := hl
  unfold p_B_variables at h
  refine lv_iload_n hx hb d_B_variables_0 rfl (lv_at hl 1 rfl) ?_
  refine x_callSi C0 hw hl (c_B_isCut h) g_B_isCut wm_554 wm_555 (As := [.int x1]) (rest := []) rfl rfl (Nat.le_of_ble_eq_true rfl) ⟨rfl, rfl⟩ ⟨Nat.le_of_ble_eq_true rfl, Nat.le_of_ble_eq_true rfl⟩ ⟨Nat.le_of_ble_eq_true rfl, Nat.le_of_ble_eq_true rfl⟩ d_B_variables_1 (fun r_1 u H locs h hw => ?_)
  refine lv_if_ne (tgt := 10) hx hb d_B_variables_4 (by decide) (fun c_2 => ?_) (fun c_2 => ?_)
  · have h := h.1 c_2
    refine lv_aload_n hx hb d_B_variables_10 rfl (lv_at hl 0 rfl) ?_
    refine x_get C0 hw 0 rfl rfl i_B 1 (by decide) wm_305 rfl rfl d_B_variables_11 ?_
    refine lv_iconst (v := 1) hx hb d_B_variables_14 (by decide) ?_
    refine lv_iload_n hx hb d_B_variables_15 rfl (lv_at hl 1 rfl) ?_
    refine x_callVi C0 hw hl (c_C_occurring h) g_C_occurring wm_557 ⟨wm_559, wm_558⟩ 3 rfl rfl rfl (As := [.int (1 : Int32), .int x1]) (rest := []) rfl rfl (Nat.le_of_ble_eq_true rfl) ⟨rfl, rfl⟩ ⟨Nat.le_of_ble_eq_true rfl, Nat.le_of_ble_eq_true rfl⟩ ⟨Nat.le_of_ble_eq_true rfl, Nat.le_of_ble_eq_true rfl⟩ d_B_variables_16 (fun r_3 u H locs h hw => ?_)
    refine lv_istore_n (lv' := [(3, .int r_3), (0, .ref (ad 0)), (1, .int x1), (2, .int x2)]) hx hb d_B_variables_19 rfl hl (by decide) rfl (fun ls hl => ?_)
    refine lv_aload_n hx hb d_B_variables_20 rfl (lv_at hl 1 rfl) ?_
    refine x_get C0 hw 0 rfl rfl i_B 1 (by decide) wm_305 rfl rfl d_B_variables_21 ?_
    refine lv_iload_n hx hb d_B_variables_24 rfl (lv_at hl 2 rfl) ?_
    refine lv_iconst (v := 1) hx hb d_B_variables_25 (by decide) ?_
    refine lv_iadd hx hb d_B_variables_26 ?_
    refine lv_bipush (v := 8) hx hb d_B_variables_27 (by decide) ?_
    refine x_callVi C0 hw hl (c_C_occurring h) g_C_occurring wm_557 ⟨wm_559, wm_558⟩ 3 rfl rfl rfl (As := [.int (x1 + (1 : Int32)), .int (8 : Int32)]) (rest := []) rfl rfl (Nat.le_of_ble_eq_true rfl) ⟨rfl, rfl⟩ ⟨Nat.le_of_ble_eq_true rfl, Nat.le_of_ble_eq_true rfl⟩ ⟨Nat.le_of_ble_eq_true rfl, Nat.le_of_ble_eq_true rfl⟩ d_B_variables_29 (fun r_4 u H locs h hw => ?_)
    refine lv_istore (lv' := [(4, .int r_4), (3, .int r_3), (0, .ref (ad 0)), (1, .int x1), (2, .int x2)]) hx hb d_B_variables_32 hl (by decide) rfl (fun ls hl => ?_)
    refine lv_iload_n hx hb d_B_variables_34 rfl (lv_at hl 4 rfl) ?_
    by_cases c_5 : x2 = (0 : Int32)
    · have h := h.1 c_5
      refine lv_tableIn (tgt := 60) (off := 25) hx hb d_B_variables_35 (by rw [c_5]; decide) (by rw [c_5]; decide) (by rw [c_5]; rfl) (by decide) ?_
      refine lv_iload_n hx hb d_B_variables_60 rfl (lv_at hl 1 rfl) ?_
      exact x_iret C0 hw () h rfl d_B_variables_61
    by_cases c_6 : x2 = (1 : Int32)
    · have h := h.2.1 c_6
      refine lv_tableIn (tgt := 62) (off := 27) hx hb d_B_variables_35 (by rw [c_6]; decide) (by rw [c_6]; decide) (by rw [c_6]; rfl) (by decide) ?_
      refine lv_iload hx hb d_B_variables_62 (lv_at hl 0 rfl) ?_
      exact x_iret C0 hw () h rfl d_B_variables_64
    by_cases c_7 : x2 = (2 : Int32)
    · have h := h.2.2.1 c_7
      refine lv_tableIn (tgt := 65) (off := 30) hx hb d_B_variables_35 (by rw [c_7]; decide) (by rw [c_7]; decide) (by rw [c_7]; rfl) (by decide) ?_
      refine lv_iload_n hx hb d_B_variables_65 rfl (lv_at hl 1 rfl) ?_
      refine lv_iload hx hb d_B_variables_66 (lv_at hl 0 rfl) ?_
      refine lv_iand hx hb d_B_variables_68 ?_
      exact x_iret C0 hw () h rfl d_B_variables_69
    have h := h.2.2.2 c_5 c_6 c_7
    refine lv_tableOut (tgt := 70) hx hb d_B_variables_35 (by have q0 := lv_neT c_5 (a := 0) rfl; have q1 := lv_neT c_6 (a := 1) rfl; have q2 := lv_neT c_7 (a := 2) rfl; omega) (by decide) ?_
    refine lv_iconst (v := -1) hx hb d_B_variables_70 (by decide) ?_
    exact x_iret C0 hw () h rfl d_B_variables_71
  · have h := h.2 c_2
    refine lv_bipush (v := -2) hx hb d_B_variables_7 (by decide) ?_
    exact x_iret C0 hw () h rfl d_B_variables_9
theorem g_B_interpolate : GY y_B_interpolate b_B_interpolate 3 (some .int) 2 := ⟨wm_568, wm_53, by decide +kernel, by decide +kernel, by decide +kernel⟩
def p_B_interpolate (C_size : Int32) (C_empty : Int32) (C_block : Nat → Int32) (C_left : Nat → Int32) (C_right : Nat → Int32) (C_pivot : Nat → Int32) (C_positive : Nat → Int32) (C_negative : Nat → Int32) (C_needed : Nat → Int32) (L_of : Nat → Int32) (F_cut : Int32) (F_labelledA : Int32) (F_labelledB : Int32) (F_row : Nat → Int64) (A_root : Int32) (A_words : Nat → Int64) (A_known : Nat → Int32) (G_size : Int32) (G_variable : Nat → Int32) (G_low : Nat → Int32) (G_high : Nat → Int32) (G_numberOf : Nat → Int32) (G_nodeOf : Nat → Int32) (G_sides : Nat → Int32) (G_waiting : Nat → Int32) (x1 : Int32) (x2 : Int32) (k : Int32 → Int32 → Int32 → Int32 → (Nat → Int64) → Int32 → (Nat → Int64) → (Nat → Int32) → Int32 → (Nat → Int32) → (Nat → Int32) → (Nat → Int32) → (Nat → Int32) → (Nat → Int32) → (Nat → Int32) → (Nat → Int32) → Prop) : Prop :=
  (p_B_isCut x1 (fun (r_1 : Int32) => ((r_1 = 0 → (k (-2 : Int32) F_cut F_labelledA F_labelledB F_row A_root A_words A_known G_size G_variable G_low G_high G_numberOf G_nodeOf G_sides G_waiting)) ∧ (¬ r_1 = 0 → (p_B_isSystem x2 (fun (r_3 : Int32) => ((¬ r_3 = 0 → ((¬ C_empty = 0 → (p_F_choose C_size C_block C_positive C_negative L_of x1 x2 (fun (F_cut_6 : Int32) (F_labelledA_7 : Int32) (F_labelledB_8 : Int32) => (p_A_take C_empty C_block C_left C_right C_pivot C_positive C_negative C_needed F_cut_6 F_labelledA_7 F_labelledB_8 F_row A_words A_known G_variable G_low G_high G_numberOf G_nodeOf G_sides G_waiting (fun (F_row_10 : Nat → Int64) (A_root_11 : Int32) (A_words_12 : Nat → Int64) (A_known_13 : Nat → Int32) (G_size_14 : Int32) (G_variable_15 : Nat → Int32) (G_low_16 : Nat → Int32) (G_high_17 : Nat → Int32) (G_numberOf_18 : Nat → Int32) (G_nodeOf_19 : Nat → Int32) (G_sides_20 : Nat → Int32) (G_waiting_21 : Nat → Int32) => (k G_size_14 F_cut_6 F_labelledA_7 F_labelledB_8 F_row_10 A_root_11 A_words_12 A_known_13 G_size_14 G_variable_15 G_low_16 G_high_17 G_numberOf_18 G_nodeOf_19 G_sides_20 G_waiting_21)))))) ∧ (C_empty = 0 → (k (-1 : Int32) F_cut F_labelledA F_labelledB F_row A_root A_words A_known G_size G_variable G_low G_high G_numberOf G_nodeOf G_sides G_waiting)))) ∧ (r_3 = 0 → (k (-2 : Int32) F_cut F_labelledA F_labelledB F_row A_root A_words A_known G_size G_variable G_low G_high G_numberOf G_nodeOf G_sides G_waiting)))))))))
abbrev rm_B_interpolate : Room := { frames := 5, cells := 0, slots := 0, locals := 116 }
set_option maxHeartbeats 4000000 in
set_option maxRecDepth 100000 in
theorem c_B_interpolate {l : Launch} {D : va_G} {ca : Nat → ClassId} {tp : Nat} {ad : Nat → Nat} {T_length : Int32} {T_bytes : Nat → Int32} {C_size : Int32} {C_given : Int32} {C_empty : Int32} {C_drafted : Int32} {C_draftedGiven : Int32} {C_block : Nat → Int32} {C_left : Nat → Int32} {C_right : Nat → Int32} {C_pivot : Nat → Int32} {C_positive : Nat → Int32} {C_negative : Nat → Int32} {C_live : Nat → Int32} {C_needed : Nat → Int32} {R_kind : Int32} {R_place : Int32} {R_at : Int32} {R_token : Int32} {R_tokenPlace : Int32} {R_number : Int32} {R_state : Int32} {R_block : Int32} {R_positive : Int32} {R_negative : Int32} {R_left : Int32} {R_right : Int32} {R_pivot : Int32} {L_of : Nat → Int32} {F_cut : Int32} {F_labelledA : Int32} {F_labelledB : Int32} {F_row : Nat → Int64} {A_root : Int32} {A_words : Nat → Int64} {A_known : Nat → Int32} {G_size : Int32} {G_variable : Nat → Int32} {G_low : Nat → Int32} {G_high : Nat → Int32} {G_numberOf : Nat → Int32} {G_nodeOf : Nat → Int32} {G_sides : Nat → Int32} {G_waiting : Nat → Int32} {B_table : Nat → Int64} {B_nextTable : Nat → Int64} {x1 : Int32} {x2 : Int32} {k : Int32 → Int32 → Int32 → Int32 → (Nat → Int64) → Int32 → (Nat → Int64) → (Nat → Int32) → Int32 → (Nat → Int32) → (Nat → Int32) → (Nat → Int32) → (Nat → Int32) → (Nat → Int32) → (Nat → Int32) → (Nat → Int32) → Prop} (h : p_B_interpolate C_size C_empty C_block C_left C_right C_pivot C_positive C_negative C_needed L_of F_cut F_labelledA F_labelledB F_row A_root A_words A_known G_size G_variable G_low G_high G_numberOf G_nodeOf G_sides G_waiting x1 x2 k) :
    MTi l y_B_interpolate b_B_interpolate 3 (some .int) rm_B_interpolate D ca tp [.ref (ad 0), .int x1, .int x2] (WB ad ca T_length T_bytes C_size C_given C_empty C_drafted C_draftedGiven C_block C_left C_right C_pivot C_positive C_negative C_live C_needed R_kind R_place R_at R_token R_tokenPlace R_number R_state R_block R_positive R_negative R_left R_right R_pivot L_of F_cut F_labelledA F_labelledB F_row A_root A_words A_known G_size G_variable G_low G_high G_numberOf G_nodeOf G_sides G_waiting B_table B_nextTable)
      (fun r (u : Int32 × Int32 × Int32 × (Nat → Int64) × Int32 × (Nat → Int64) × (Nat → Int32) × Int32 × (Nat → Int32) × (Nat → Int32) × (Nat → Int32) × (Nat → Int32) × (Nat → Int32) × (Nat → Int32) × (Nat → Int32)) => k r u.1 u.2.1 u.2.2.1 u.2.2.2.1 u.2.2.2.2.1 u.2.2.2.2.2.1 u.2.2.2.2.2.2.1 u.2.2.2.2.2.2.2.1 u.2.2.2.2.2.2.2.2.1 u.2.2.2.2.2.2.2.2.2.1 u.2.2.2.2.2.2.2.2.2.2.1 u.2.2.2.2.2.2.2.2.2.2.2.1 u.2.2.2.2.2.2.2.2.2.2.2.2.1 u.2.2.2.2.2.2.2.2.2.2.2.2.2.1 u.2.2.2.2.2.2.2.2.2.2.2.2.2.2)
      (fun (u : Int32 × Int32 × Int32 × (Nat → Int64) × Int32 × (Nat → Int64) × (Nat → Int32) × Int32 × (Nat → Int32) × (Nat → Int32) × (Nat → Int32) × (Nat → Int32) × (Nat → Int32) × (Nat → Int32) × (Nat → Int32)) => WB ad ca T_length T_bytes C_size C_given C_empty C_drafted C_draftedGiven C_block C_left C_right C_pivot C_positive C_negative C_live C_needed R_kind R_place R_at R_token R_tokenPlace R_number R_state R_block R_positive R_negative R_left R_right R_pivot L_of u.1 u.2.1 u.2.2.1 u.2.2.2.1 u.2.2.2.2.1 u.2.2.2.2.2.1 u.2.2.2.2.2.2.1 u.2.2.2.2.2.2.2.1 u.2.2.2.2.2.2.2.2.1 u.2.2.2.2.2.2.2.2.2.1 u.2.2.2.2.2.2.2.2.2.2.1 u.2.2.2.2.2.2.2.2.2.2.2.1 u.2.2.2.2.2.2.2.2.2.2.2.2.1 u.2.2.2.2.2.2.2.2.2.2.2.2.2.1 u.2.2.2.2.2.2.2.2.2.2.2.2.2.2 B_table B_nextTable) 0 0 := by
  refine x_entryi (own := R_B) (nm := "interpolate") (by decide) rfl rfl (Nat.le_of_ble_eq_true rfl) (fun p e s m below meth c A ls C0 hw hl => ?_)
  have hx := C0.1
  have hb := C0.2.1
  have hl : lv_has ls 3 [(0, .ref (ad 0)), (1, .int x1), (2, .int x2)] := hl
  unfold p_B_interpolate at h
  refine lv_iload_n hx hb d_B_interpolate_0 rfl (lv_at hl 1 rfl) ?_
  refine x_callSi C0 hw hl (c_B_isCut h) g_B_isCut wm_554 wm_555 (As := [.int x1]) (rest := []) rfl rfl (Nat.le_of_ble_eq_true rfl) ⟨rfl, rfl⟩ ⟨Nat.le_of_ble_eq_true rfl, Nat.le_of_ble_eq_true rfl⟩ ⟨Nat.le_of_ble_eq_true rfl, Nat.le_of_ble_eq_true rfl⟩ d_B_interpolate_1 (fun r_1 u H locs h hw => ?_)
  refine lv_if_eq (tgt := 14) hx hb d_B_interpolate_4 (by decide) (fun c_2 => ?_) (fun c_2 => ?_)
  · have h := h.1 c_2
    refine lv_bipush (v := -2) hx hb d_B_interpolate_14 (by decide) ?_
    exact x_iret C0 hw (F_cut, F_labelledA, F_labelledB, F_row, A_root, A_words, A_known, G_size, G_variable, G_low, G_high, G_numberOf, G_nodeOf, G_sides, G_waiting) h rfl d_B_interpolate_16
  · have h := h.2 c_2
    refine lv_iload_n hx hb d_B_interpolate_7 rfl (lv_at hl 2 rfl) ?_
    refine x_callSi C0 hw hl (c_B_isSystem h) g_B_isSystem wm_569 wm_570 (As := [.int x2]) (rest := []) rfl rfl (Nat.le_of_ble_eq_true rfl) ⟨rfl, rfl⟩ ⟨Nat.le_of_ble_eq_true rfl, Nat.le_of_ble_eq_true rfl⟩ ⟨Nat.le_of_ble_eq_true rfl, Nat.le_of_ble_eq_true rfl⟩ d_B_interpolate_8 (fun r_3 u H locs h hw => ?_)
    refine lv_if_ne (tgt := 17) hx hb d_B_interpolate_11 (by decide) (fun c_4 => ?_) (fun c_4 => ?_)
    · have h := h.1 c_4
      refine lv_aload_n hx hb d_B_interpolate_17 rfl (lv_at hl 0 rfl) ?_
      refine x_get C0 hw 0 rfl rfl i_B 1 (by decide) wm_305 rfl rfl d_B_interpolate_18 ?_
      refine x_getN C0 hw 3 rfl rfl i_C 10 (by decide) wm_124 rfl rfl d_B_interpolate_21 ?_
      refine lv_if_ne (tgt := 29) hx hb d_B_interpolate_24 (by decide) (fun c_5 => ?_) (fun c_5 => ?_)
      · have h := h.1 c_5
        refine lv_aload_n hx hb d_B_interpolate_29 rfl (lv_at hl 0 rfl) ?_
        refine x_get C0 hw 0 rfl rfl i_B 4 (by decide) wm_308 rfl rfl d_B_interpolate_30 ?_
        refine lv_iload_n hx hb d_B_interpolate_33 rfl (lv_at hl 1 rfl) ?_
        refine lv_iload_n hx hb d_B_interpolate_34 rfl (lv_at hl 2 rfl) ?_
        refine x_callVv C0 hw hl (c_F_choose h) g_F_choose wm_572 ⟨wm_574, wm_573⟩ 15 rfl rfl rfl (As := [.int x1, .int x2]) (rest := []) rfl rfl (Nat.le_of_ble_eq_true rfl) ⟨rfl, rfl⟩ ⟨Nat.le_of_ble_eq_true rfl, Nat.le_of_ble_eq_true rfl⟩ ⟨Nat.le_of_ble_eq_true rfl, Nat.le_of_ble_eq_true rfl⟩ d_B_interpolate_35 (fun u H locs h hw => ?_)
        obtain ⟨F_cut_6, F_labelledA_7, F_labelledB_8⟩ := u
        refine lv_aload_n hx hb d_B_interpolate_38 rfl (lv_at hl 0 rfl) ?_
        refine x_get C0 hw 0 rfl rfl i_B 5 (by decide) wm_309 rfl rfl d_B_interpolate_39 ?_
        refine lv_aload_n hx hb d_B_interpolate_42 rfl (lv_at hl 0 rfl) ?_
        refine x_get C0 hw 0 rfl rfl i_B 4 (by decide) wm_308 rfl rfl d_B_interpolate_43 ?_
        refine lv_aload_n hx hb d_B_interpolate_46 rfl (lv_at hl 0 rfl) ?_
        refine x_get C0 hw 0 rfl rfl i_B 1 (by decide) wm_305 rfl rfl d_B_interpolate_47 ?_
        refine x_callVv C0 hw hl (c_A_take h) g_A_take wm_586 ⟨wm_588, wm_587⟩ 17 rfl rfl rfl (As := [.ref (ad 15), .ref (ad 3)]) (rest := []) rfl rfl (Nat.le_of_ble_eq_true rfl) ⟨rfl, rfl⟩ ⟨Nat.le_of_ble_eq_true rfl, Nat.le_of_ble_eq_true rfl⟩ ⟨Nat.le_of_ble_eq_true rfl, Nat.le_of_ble_eq_true rfl⟩ d_B_interpolate_50 (fun u H locs h hw => ?_)
        obtain ⟨F_row_10, A_root_11, A_words_12, A_known_13, G_size_14, G_variable_15, G_low_16, G_high_17, G_numberOf_18, G_nodeOf_19, G_sides_20, G_waiting_21⟩ := u
        refine lv_aload_n hx hb d_B_interpolate_53 rfl (lv_at hl 0 rfl) ?_
        refine x_get C0 hw 0 rfl rfl i_B 5 (by decide) wm_309 rfl rfl d_B_interpolate_54 ?_
        refine x_getN C0 hw 17 rfl rfl i_A 2 (by decide) wm_292 rfl rfl d_B_interpolate_57 ?_
        refine x_getN C0 hw 20 rfl rfl i_G 7 (by decide) wm_271 rfl rfl d_B_interpolate_60 ?_
        exact x_iret C0 hw (F_cut_6, F_labelledA_7, F_labelledB_8, F_row_10, A_root_11, A_words_12, A_known_13, G_size_14, G_variable_15, G_low_16, G_high_17, G_numberOf_18, G_nodeOf_19, G_sides_20, G_waiting_21) h rfl d_B_interpolate_63
      · have h := h.2 c_5
        refine lv_iconst (v := -1) hx hb d_B_interpolate_27 (by decide) ?_
        exact x_iret C0 hw (F_cut, F_labelledA, F_labelledB, F_row, A_root, A_words, A_known, G_size, G_variable, G_low, G_high, G_numberOf, G_nodeOf, G_sides, G_waiting) h rfl d_B_interpolate_28
    · have h := h.2 c_4
      refine lv_bipush (v := -2) hx hb d_B_interpolate_14 (by decide) ?_
      exact x_iret C0 hw (F_cut, F_labelledA, F_labelledB, F_row, A_root, A_words, A_known, G_size, G_variable, G_low, G_high, G_numberOf, G_nodeOf, G_sides, G_waiting) h rfl d_B_interpolate_16
theorem g_B_value : GY y_B_value b_B_value 2 (some .int) 1 := ⟨wm_634, wm_53, by decide +kernel, by decide +kernel, by decide +kernel⟩
def p_B_value (A_root : Int32) (A_words : Nat → Int64) (A_known : Nat → Int32) (x1 : Int32) (k : Int32 → Prop) : Prop :=
  (p_A_truth A_words A_known A_root x1 (fun (r_1 : Int32) => (k r_1)))
abbrev rm_B_value : Room := { frames := 2, cells := 0, slots := 0, locals := 45 }
set_option maxHeartbeats 4000000 in
set_option maxRecDepth 100000 in
theorem c_B_value {l : Launch} {D : va_G} {ca : Nat → ClassId} {tp : Nat} {ad : Nat → Nat} {T_length : Int32} {T_bytes : Nat → Int32} {C_size : Int32} {C_given : Int32} {C_empty : Int32} {C_drafted : Int32} {C_draftedGiven : Int32} {C_block : Nat → Int32} {C_left : Nat → Int32} {C_right : Nat → Int32} {C_pivot : Nat → Int32} {C_positive : Nat → Int32} {C_negative : Nat → Int32} {C_live : Nat → Int32} {C_needed : Nat → Int32} {R_kind : Int32} {R_place : Int32} {R_at : Int32} {R_token : Int32} {R_tokenPlace : Int32} {R_number : Int32} {R_state : Int32} {R_block : Int32} {R_positive : Int32} {R_negative : Int32} {R_left : Int32} {R_right : Int32} {R_pivot : Int32} {L_of : Nat → Int32} {F_cut : Int32} {F_labelledA : Int32} {F_labelledB : Int32} {F_row : Nat → Int64} {A_root : Int32} {A_words : Nat → Int64} {A_known : Nat → Int32} {G_size : Int32} {G_variable : Nat → Int32} {G_low : Nat → Int32} {G_high : Nat → Int32} {G_numberOf : Nat → Int32} {G_nodeOf : Nat → Int32} {G_sides : Nat → Int32} {G_waiting : Nat → Int32} {B_table : Nat → Int64} {B_nextTable : Nat → Int64} {x1 : Int32} {k : Int32 → Prop} (h : p_B_value A_root A_words A_known x1 k) :
    MTi l y_B_value b_B_value 2 (some .int) rm_B_value D ca tp [.ref (ad 0), .int x1] (WB ad ca T_length T_bytes C_size C_given C_empty C_drafted C_draftedGiven C_block C_left C_right C_pivot C_positive C_negative C_live C_needed R_kind R_place R_at R_token R_tokenPlace R_number R_state R_block R_positive R_negative R_left R_right R_pivot L_of F_cut F_labelledA F_labelledB F_row A_root A_words A_known G_size G_variable G_low G_high G_numberOf G_nodeOf G_sides G_waiting B_table B_nextTable)
      (fun r (_ : Unit) => k r)
      (fun (_ : Unit) => WB ad ca T_length T_bytes C_size C_given C_empty C_drafted C_draftedGiven C_block C_left C_right C_pivot C_positive C_negative C_live C_needed R_kind R_place R_at R_token R_tokenPlace R_number R_state R_block R_positive R_negative R_left R_right R_pivot L_of F_cut F_labelledA F_labelledB F_row A_root A_words A_known G_size G_variable G_low G_high G_numberOf G_nodeOf G_sides G_waiting B_table B_nextTable) 0 0 := by
  refine x_entryi (own := R_B) (nm := "value") (by decide) rfl rfl (Nat.le_of_ble_eq_true rfl) (fun p e s m below meth c A ls C0 hw hl => ?_)
  have hx := C0.1
  have hb := C0.2.1
  have hl : lv_has ls 2 [(0, .ref (ad 0)), (1, .int x1)] := hl
  unfold p_B_value at h
  refine lv_aload_n hx hb d_B_value_0 rfl (lv_at hl 0 rfl) ?_
  refine x_get C0 hw 0 rfl rfl i_B 5 (by decide) wm_309 rfl rfl d_B_value_1 ?_
  refine lv_aload_n hx hb d_B_value_4 rfl (lv_at hl 0 rfl) ?_
  refine x_get C0 hw 0 rfl rfl i_B 5 (by decide) wm_309 rfl rfl d_B_value_5 ?_
  refine x_getN C0 hw 17 rfl rfl i_A 3 (by decide) wm_294 rfl rfl d_B_value_8 ?_
  refine lv_iload_n hx hb d_B_value_11 rfl (lv_at hl 1 rfl) ?_
  refine x_callVi C0 hw hl (c_A_truth h) g_A_truth wm_635 ⟨wm_637, wm_636⟩ 17 rfl rfl rfl (As := [.int A_root, .int x1]) (rest := []) rfl rfl (Nat.le_of_ble_eq_true rfl) ⟨rfl, rfl⟩ ⟨Nat.le_of_ble_eq_true rfl, Nat.le_of_ble_eq_true rfl⟩ ⟨Nat.le_of_ble_eq_true rfl, Nat.le_of_ble_eq_true rfl⟩ d_B_value_12 (fun r_1 u H locs h hw => ?_)
  exact x_iret C0 hw () h rfl d_B_value_15
theorem g_B_prt : GY y_B_prt b_B_prt 3 (some .int) 2 := ⟨wm_643, wm_53, by decide +kernel, by decide +kernel, by decide +kernel⟩
def p_B_prt (A_words : Nat → Int64) (A_known : Nat → Int32) (x1 : Int32) (x2 : Int32) (k : Int32 → Prop) : Prop :=
  (p_A_truth A_words A_known x1 x2 (fun (r_1 : Int32) => (k r_1)))
abbrev rm_B_prt : Room := { frames := 2, cells := 0, slots := 0, locals := 45 }
set_option maxHeartbeats 4000000 in
set_option maxRecDepth 100000 in
theorem c_B_prt {l : Launch} {D : va_G} {ca : Nat → ClassId} {tp : Nat} {ad : Nat → Nat} {T_length : Int32} {T_bytes : Nat → Int32} {C_size : Int32} {C_given : Int32} {C_empty : Int32} {C_drafted : Int32} {C_draftedGiven : Int32} {C_block : Nat → Int32} {C_left : Nat → Int32} {C_right : Nat → Int32} {C_pivot : Nat → Int32} {C_positive : Nat → Int32} {C_negative : Nat → Int32} {C_live : Nat → Int32} {C_needed : Nat → Int32} {R_kind : Int32} {R_place : Int32} {R_at : Int32} {R_token : Int32} {R_tokenPlace : Int32} {R_number : Int32} {R_state : Int32} {R_block : Int32} {R_positive : Int32} {R_negative : Int32} {R_left : Int32} {R_right : Int32} {R_pivot : Int32} {L_of : Nat → Int32} {F_cut : Int32} {F_labelledA : Int32} {F_labelledB : Int32} {F_row : Nat → Int64} {A_root : Int32} {A_words : Nat → Int64} {A_known : Nat → Int32} {G_size : Int32} {G_variable : Nat → Int32} {G_low : Nat → Int32} {G_high : Nat → Int32} {G_numberOf : Nat → Int32} {G_nodeOf : Nat → Int32} {G_sides : Nat → Int32} {G_waiting : Nat → Int32} {B_table : Nat → Int64} {B_nextTable : Nat → Int64} {x1 : Int32} {x2 : Int32} {k : Int32 → Prop} (h : p_B_prt A_words A_known x1 x2 k) :
    MTi l y_B_prt b_B_prt 3 (some .int) rm_B_prt D ca tp [.ref (ad 0), .int x1, .int x2] (WB ad ca T_length T_bytes C_size C_given C_empty C_drafted C_draftedGiven C_block C_left C_right C_pivot C_positive C_negative C_live C_needed R_kind R_place R_at R_token R_tokenPlace R_number R_state R_block R_positive R_negative R_left R_right R_pivot L_of F_cut F_labelledA F_labelledB F_row A_root A_words A_known G_size G_variable G_low G_high G_numberOf G_nodeOf G_sides G_waiting B_table B_nextTable)
      (fun r (_ : Unit) => k r)
      (fun (_ : Unit) => WB ad ca T_length T_bytes C_size C_given C_empty C_drafted C_draftedGiven C_block C_left C_right C_pivot C_positive C_negative C_live C_needed R_kind R_place R_at R_token R_tokenPlace R_number R_state R_block R_positive R_negative R_left R_right R_pivot L_of F_cut F_labelledA F_labelledB F_row A_root A_words A_known G_size G_variable G_low G_high G_numberOf G_nodeOf G_sides G_waiting B_table B_nextTable) 0 0 := by
  refine x_entryi (own := R_B) (nm := "partial") (by decide) rfl rfl (Nat.le_of_ble_eq_true rfl) (fun p e s m below meth c A ls C0 hw hl => ?_)
  have hx := C0.1
  have hb := C0.2.1
  have hl : lv_has ls 3 [(0, .ref (ad 0)), (1, .int x1), (2, .int x2)] := hl
  unfold p_B_prt at h
  refine lv_aload_n hx hb d_B_prt_0 rfl (lv_at hl 0 rfl) ?_
  refine x_get C0 hw 0 rfl rfl i_B 5 (by decide) wm_309 rfl rfl d_B_prt_1 ?_
  refine lv_iload_n hx hb d_B_prt_4 rfl (lv_at hl 1 rfl) ?_
  refine lv_iload_n hx hb d_B_prt_5 rfl (lv_at hl 2 rfl) ?_
  refine x_callVi C0 hw hl (c_A_truth h) g_A_truth wm_635 ⟨wm_637, wm_636⟩ 17 rfl rfl rfl (As := [.int x1, .int x2]) (rest := []) rfl rfl (Nat.le_of_ble_eq_true rfl) ⟨rfl, rfl⟩ ⟨Nat.le_of_ble_eq_true rfl, Nat.le_of_ble_eq_true rfl⟩ ⟨Nat.le_of_ble_eq_true rfl, Nat.le_of_ble_eq_true rfl⟩ d_B_prt_6 (fun r_1 u H locs h hw => ?_)
  exact x_iret C0 hw () h rfl d_B_prt_9
theorem g_B_told : GY y_B_told b_B_told 2 (some .int) 1 := ⟨wm_647, wm_53, by decide +kernel, by decide +kernel, by decide +kernel⟩
def p_B_told (A_root : Int32) (A_words : Nat → Int64) (G_size : Int32) (G_variable : Nat → Int32) (x1 : Int32) (k : Int32 → Prop) : Prop :=
  ((¬ A_root = 0 → ((x1 = (0 : Int32) → (p_A_trueValuations A_root A_words (fun (r_3 : Int32) => (k r_3)))) ∧ (x1 = (1 : Int32) → (p_G_support G_size G_variable (fun (r_5 : Int32) => (k r_5)))) ∧ (¬ x1 = (0 : Int32) → ¬ x1 = (1 : Int32) → (k (-1 : Int32))))) ∧ (A_root = 0 → (k (-1 : Int32))))
abbrev rm_B_told : Room := { frames := 2, cells := 0, slots := 0, locals := 43 }
set_option maxHeartbeats 4000000 in
set_option maxRecDepth 100000 in
theorem c_B_told {l : Launch} {D : va_G} {ca : Nat → ClassId} {tp : Nat} {ad : Nat → Nat} {T_length : Int32} {T_bytes : Nat → Int32} {C_size : Int32} {C_given : Int32} {C_empty : Int32} {C_drafted : Int32} {C_draftedGiven : Int32} {C_block : Nat → Int32} {C_left : Nat → Int32} {C_right : Nat → Int32} {C_pivot : Nat → Int32} {C_positive : Nat → Int32} {C_negative : Nat → Int32} {C_live : Nat → Int32} {C_needed : Nat → Int32} {R_kind : Int32} {R_place : Int32} {R_at : Int32} {R_token : Int32} {R_tokenPlace : Int32} {R_number : Int32} {R_state : Int32} {R_block : Int32} {R_positive : Int32} {R_negative : Int32} {R_left : Int32} {R_right : Int32} {R_pivot : Int32} {L_of : Nat → Int32} {F_cut : Int32} {F_labelledA : Int32} {F_labelledB : Int32} {F_row : Nat → Int64} {A_root : Int32} {A_words : Nat → Int64} {A_known : Nat → Int32} {G_size : Int32} {G_variable : Nat → Int32} {G_low : Nat → Int32} {G_high : Nat → Int32} {G_numberOf : Nat → Int32} {G_nodeOf : Nat → Int32} {G_sides : Nat → Int32} {G_waiting : Nat → Int32} {B_table : Nat → Int64} {B_nextTable : Nat → Int64} {x1 : Int32} {k : Int32 → Prop} (h : p_B_told A_root A_words G_size G_variable x1 k) :
    MTi l y_B_told b_B_told 2 (some .int) rm_B_told D ca tp [.ref (ad 0), .int x1] (WB ad ca T_length T_bytes C_size C_given C_empty C_drafted C_draftedGiven C_block C_left C_right C_pivot C_positive C_negative C_live C_needed R_kind R_place R_at R_token R_tokenPlace R_number R_state R_block R_positive R_negative R_left R_right R_pivot L_of F_cut F_labelledA F_labelledB F_row A_root A_words A_known G_size G_variable G_low G_high G_numberOf G_nodeOf G_sides G_waiting B_table B_nextTable)
      (fun r (_ : Unit) => k r)
      (fun (_ : Unit) => WB ad ca T_length T_bytes C_size C_given C_empty C_drafted C_draftedGiven C_block C_left C_right C_pivot C_positive C_negative C_live C_needed R_kind R_place R_at R_token R_tokenPlace R_number R_state R_block R_positive R_negative R_left R_right R_pivot L_of F_cut F_labelledA F_labelledB F_row A_root A_words A_known G_size G_variable G_low G_high G_numberOf G_nodeOf G_sides G_waiting B_table B_nextTable) 0 0 := by
  refine x_entryi (own := R_B) (nm := "told") (by decide) rfl rfl (Nat.le_of_ble_eq_true rfl) (fun p e s m below meth c A ls C0 hw hl => ?_)
  have hx := C0.1
  have hb := C0.2.1
  have hl : lv_has ls 2 [(0, .ref (ad 0)), (1, .int x1)] := hl
  unfold p_B_told at h
  refine lv_aload_n hx hb d_B_told_0 rfl (lv_at hl 0 rfl) ?_
  refine x_get C0 hw 0 rfl rfl i_B 5 (by decide) wm_309 rfl rfl d_B_told_1 ?_
  refine x_getN C0 hw 17 rfl rfl i_A 3 (by decide) wm_294 rfl rfl d_B_told_4 ?_
  refine lv_if_ne (tgt := 12) hx hb d_B_told_7 (by decide) (fun c_1 => ?_) (fun c_1 => ?_)
  · have h := h.1 c_1
    refine lv_iload_n hx hb d_B_told_12 rfl (lv_at hl 1 rfl) ?_
    by_cases c_2 : x1 = (0 : Int32)
    · have h := h.1 c_2
      refine lv_lookup (tgt := 40) (off := 27) hx hb d_B_told_13 (by decide) (by rw [c_2]; rfl) (by decide) ?_
      refine lv_aload_n hx hb d_B_told_40 rfl (lv_at hl 0 rfl) ?_
      refine x_get C0 hw 0 rfl rfl i_B 5 (by decide) wm_309 rfl rfl d_B_told_41 ?_
      refine x_callVi C0 hw hl (c_A_trueValuations h) g_A_trueValuations wm_648 ⟨wm_650, wm_649⟩ 17 rfl rfl rfl (As := []) (rest := []) rfl rfl (Nat.le_of_ble_eq_true rfl) ⟨rfl, rfl⟩ ⟨Nat.le_of_ble_eq_true rfl, Nat.le_of_ble_eq_true rfl⟩ ⟨Nat.le_of_ble_eq_true rfl, Nat.le_of_ble_eq_true rfl⟩ d_B_told_44 (fun r_3 u H locs h hw => ?_)
      exact x_iret C0 hw () h rfl d_B_told_47
    by_cases c_4 : x1 = (1 : Int32)
    · have h := h.2.1 c_4
      refine lv_lookup (tgt := 48) (off := 35) hx hb d_B_told_13 (by decide) (by rw [c_4]; rfl) (by decide) ?_
      refine lv_aload_n hx hb d_B_told_48 rfl (lv_at hl 0 rfl) ?_
      refine x_get C0 hw 0 rfl rfl i_B 5 (by decide) wm_309 rfl rfl d_B_told_49 ?_
      refine x_getN C0 hw 17 rfl rfl i_A 2 (by decide) wm_292 rfl rfl d_B_told_52 ?_
      refine x_callVi C0 hw hl (c_G_support h) g_G_support wm_658 ⟨wm_660, wm_659⟩ 20 rfl rfl rfl (As := []) (rest := []) rfl rfl (Nat.le_of_ble_eq_true rfl) ⟨rfl, rfl⟩ ⟨Nat.le_of_ble_eq_true rfl, Nat.le_of_ble_eq_true rfl⟩ ⟨Nat.le_of_ble_eq_true rfl, Nat.le_of_ble_eq_true rfl⟩ d_B_told_55 (fun r_5 u H locs h hw => ?_)
      exact x_iret C0 hw () h rfl d_B_told_58
    have h := h.2.2 c_2 c_4
    refine lv_lookup (tgt := 59) (off := 46) hx hb d_B_told_13 (by decide) ((lv_osw c_2 rfl).trans ((lv_osw c_4 rfl).trans rfl)) (by decide) ?_
    refine lv_iconst (v := -1) hx hb d_B_told_59 (by decide) ?_
    exact x_iret C0 hw () h rfl d_B_told_60
  · have h := h.2 c_1
    refine lv_iconst (v := -1) hx hb d_B_told_10 (by decide) ?_
    exact x_iret C0 hw () h rfl d_B_told_11
theorem g_B_graph : GY y_B_graph b_B_graph 3 (some .int) 2 := ⟨wm_665, wm_53, by decide +kernel, by decide +kernel, by decide +kernel⟩
def p_B_graph (G_size : Int32) (G_variable : Nat → Int32) (G_low : Nat → Int32) (G_high : Nat → Int32) (G_numberOf : Nat → Int32) (G_nodeOf : Nat → Int32) (x1 : Int32) (x2 : Int32) (k : Int32 → Prop) : Prop :=
  (p_G_tell G_size G_variable G_low G_high G_numberOf G_nodeOf x1 x2 (fun (r_1 : Int32) => (k r_1)))
abbrev rm_B_graph : Room := { frames := 2, cells := 0, slots := 0, locals := 44 }
set_option maxHeartbeats 4000000 in
set_option maxRecDepth 100000 in
theorem c_B_graph {l : Launch} {D : va_G} {ca : Nat → ClassId} {tp : Nat} {ad : Nat → Nat} {T_length : Int32} {T_bytes : Nat → Int32} {C_size : Int32} {C_given : Int32} {C_empty : Int32} {C_drafted : Int32} {C_draftedGiven : Int32} {C_block : Nat → Int32} {C_left : Nat → Int32} {C_right : Nat → Int32} {C_pivot : Nat → Int32} {C_positive : Nat → Int32} {C_negative : Nat → Int32} {C_live : Nat → Int32} {C_needed : Nat → Int32} {R_kind : Int32} {R_place : Int32} {R_at : Int32} {R_token : Int32} {R_tokenPlace : Int32} {R_number : Int32} {R_state : Int32} {R_block : Int32} {R_positive : Int32} {R_negative : Int32} {R_left : Int32} {R_right : Int32} {R_pivot : Int32} {L_of : Nat → Int32} {F_cut : Int32} {F_labelledA : Int32} {F_labelledB : Int32} {F_row : Nat → Int64} {A_root : Int32} {A_words : Nat → Int64} {A_known : Nat → Int32} {G_size : Int32} {G_variable : Nat → Int32} {G_low : Nat → Int32} {G_high : Nat → Int32} {G_numberOf : Nat → Int32} {G_nodeOf : Nat → Int32} {G_sides : Nat → Int32} {G_waiting : Nat → Int32} {B_table : Nat → Int64} {B_nextTable : Nat → Int64} {x1 : Int32} {x2 : Int32} {k : Int32 → Prop} (h : p_B_graph G_size G_variable G_low G_high G_numberOf G_nodeOf x1 x2 k) :
    MTi l y_B_graph b_B_graph 3 (some .int) rm_B_graph D ca tp [.ref (ad 0), .int x1, .int x2] (WB ad ca T_length T_bytes C_size C_given C_empty C_drafted C_draftedGiven C_block C_left C_right C_pivot C_positive C_negative C_live C_needed R_kind R_place R_at R_token R_tokenPlace R_number R_state R_block R_positive R_negative R_left R_right R_pivot L_of F_cut F_labelledA F_labelledB F_row A_root A_words A_known G_size G_variable G_low G_high G_numberOf G_nodeOf G_sides G_waiting B_table B_nextTable)
      (fun r (_ : Unit) => k r)
      (fun (_ : Unit) => WB ad ca T_length T_bytes C_size C_given C_empty C_drafted C_draftedGiven C_block C_left C_right C_pivot C_positive C_negative C_live C_needed R_kind R_place R_at R_token R_tokenPlace R_number R_state R_block R_positive R_negative R_left R_right R_pivot L_of F_cut F_labelledA F_labelledB F_row A_root A_words A_known G_size G_variable G_low G_high G_numberOf G_nodeOf G_sides G_waiting B_table B_nextTable) 0 0 := by
  refine x_entryi (own := R_B) (nm := "graph") (by decide) rfl rfl (Nat.le_of_ble_eq_true rfl) (fun p e s m below meth c A ls C0 hw hl => ?_)
  have hx := C0.1
  have hb := C0.2.1
  have hl : lv_has ls 3 [(0, .ref (ad 0)), (1, .int x1), (2, .int x2)] := hl
  unfold p_B_graph at h
  refine lv_aload_n hx hb d_B_graph_0 rfl (lv_at hl 0 rfl) ?_
  refine x_get C0 hw 0 rfl rfl i_B 5 (by decide) wm_309 rfl rfl d_B_graph_1 ?_
  refine x_getN C0 hw 17 rfl rfl i_A 2 (by decide) wm_292 rfl rfl d_B_graph_4 ?_
  refine lv_iload_n hx hb d_B_graph_7 rfl (lv_at hl 1 rfl) ?_
  refine lv_iload_n hx hb d_B_graph_8 rfl (lv_at hl 2 rfl) ?_
  refine x_callVi C0 hw hl (c_G_tell h) g_G_tell wm_666 ⟨wm_668, wm_667⟩ 20 rfl rfl rfl (As := [.int x1, .int x2]) (rest := []) rfl rfl (Nat.le_of_ble_eq_true rfl) ⟨rfl, rfl⟩ ⟨Nat.le_of_ble_eq_true rfl, Nat.le_of_ble_eq_true rfl⟩ ⟨Nat.le_of_ble_eq_true rfl, Nat.le_of_ble_eq_true rfl⟩ d_B_graph_9 (fun r_1 u H locs h hw => ?_)
  exact x_iret C0 hw () h rfl d_B_graph_12
theorem g_B_follows : GY y_B_follows b_B_follows 5 (some .int) 3 := ⟨wm_677, wm_53, by decide +kernel, by decide +kernel, by decide +kernel⟩
def p_B_follows_L65 (F_cut : Int32) (F_labelledA : Int32) (F_labelledB : Int32) (F_row : Nat → Int64) (B_table : Nat → Int64) (B_nextTable : Nat → Int64) (k : Int32 → Int32 → Int32 → Int32 → (Nat → Int64) → (Nat → Int64) → (Nat → Int64) → Prop) : Nat → Int32 → Prop
  | 0, _ => False
  | n + 1, x4 =>
    (((16 : Int32) ≤ x4 → (k (1 : Int32) F_cut F_labelledA F_labelledB F_row B_table B_nextTable)) ∧ (¬ (16 : Int32) ≤ x4 → (vp_in x4 16 ∧ (((lg_cmp ((B_table x4.toNatClampNeg) &&& ((B_nextTable x4.toNatClampNeg) ^^^ (-1 : Int64))) (0 : Int64)) = 0 → (p_B_follows_L65 F_cut F_labelledA F_labelledB F_row B_table B_nextTable k n (x4 + 1))) ∧ (¬ (lg_cmp ((B_table x4.toNatClampNeg) &&& ((B_nextTable x4.toNatClampNeg) ^^^ (-1 : Int64))) (0 : Int64)) = 0 → (k (0 : Int32) F_cut F_labelledA F_labelledB F_row B_table B_nextTable))))))
def p_B_follows (C_size : Int32) (C_empty : Int32) (C_block : Nat → Int32) (C_left : Nat → Int32) (C_right : Nat → Int32) (C_pivot : Nat → Int32) (C_positive : Nat → Int32) (C_negative : Nat → Int32) (C_needed : Nat → Int32) (L_of : Nat → Int32) (F_cut : Int32) (F_labelledA : Int32) (F_labelledB : Int32) (F_row : Nat → Int64) (B_table : Nat → Int64) (B_nextTable : Nat → Int64) (x1 : Int32) (x2 : Int32) (x3 : Int32) (k : Int32 → Int32 → Int32 → Int32 → (Nat → Int64) → (Nat → Int64) → (Nat → Int64) → Prop) : Prop :=
  (p_B_isCut x1 (fun (r_1 : Int32) => ((r_1 = 0 → (k (-2 : Int32) F_cut F_labelledA F_labelledB F_row B_table B_nextTable)) ∧ (¬ r_1 = 0 → (p_B_isSystem x2 (fun (r_3 : Int32) => ((r_3 = 0 → (k (-2 : Int32) F_cut F_labelledA F_labelledB F_row B_table B_nextTable)) ∧ (¬ r_3 = 0 → (p_B_isSystem x3 (fun (r_5 : Int32) => ((¬ r_5 = 0 → ((¬ C_empty = 0 → (p_F_interpolantT C_size C_empty C_block C_left C_right C_pivot C_positive C_negative C_needed L_of F_row B_table x1 x2 (fun (F_cut_8 : Int32) (F_labelledA_9 : Int32) (F_labelledB_10 : Int32) (F_row_11 : Nat → Int64) (B_table_12 : Nat → Int64) => (p_F_interpolantN C_size C_empty C_block C_left C_right C_pivot C_positive C_negative C_needed L_of F_row_11 B_nextTable x1 x3 (fun (F_cut_14 : Int32) (F_labelledA_15 : Int32) (F_labelledB_16 : Int32) (F_row_17 : Nat → Int64) (B_nextTable_18 : Nat → Int64) => (∃ j_23, p_B_follows_L65 F_cut_14 F_labelledA_15 F_labelledB_16 F_row_17 B_table_12 B_nextTable_18 k j_23 (0 : Int32))))))) ∧ (C_empty = 0 → (k (-1 : Int32) F_cut F_labelledA F_labelledB F_row B_table B_nextTable)))) ∧ (r_5 = 0 → (k (-2 : Int32) F_cut F_labelledA F_labelledB F_row B_table B_nextTable)))))))))))))
abbrev rm_B_follows : Room := { frames := 5, cells := 0, slots := 0, locals := 116 }
set_option maxHeartbeats 4000000 in
set_option maxRecDepth 100000 in
theorem b_B_follows_L65 {p : Program} {l : Launch} {e : Env} {s : State} {m : MethodId} {args : Array Value} {below : List Frame} {meth : Method} {c : Code} {D : va_G} {ca : Nat → ClassId} {tp : Nat} {A : Nat → Prop} {ad : Nat → Nat} {T_length : Int32} {T_bytes : Nat → Int32} {C_size : Int32} {C_given : Int32} {C_empty : Int32} {C_drafted : Int32} {C_draftedGiven : Int32} {C_block : Nat → Int32} {C_left : Nat → Int32} {C_right : Nat → Int32} {C_pivot : Nat → Int32} {C_positive : Nat → Int32} {C_negative : Nat → Int32} {C_live : Nat → Int32} {C_needed : Nat → Int32} {R_kind : Int32} {R_place : Int32} {R_at : Int32} {R_token : Int32} {R_tokenPlace : Int32} {R_number : Int32} {R_state : Int32} {R_block : Int32} {R_positive : Int32} {R_negative : Int32} {R_left : Int32} {R_right : Int32} {R_pivot : Int32} {L_of : Nat → Int32} {F_cut : Int32} {F_labelledA : Int32} {F_labelledB : Int32} {F_row : Nat → Int64} {A_root : Int32} {A_words : Nat → Int64} {A_known : Nat → Int32} {G_size : Int32} {G_variable : Nat → Int32} {G_low : Nat → Int32} {G_high : Nat → Int32} {G_numberOf : Nat → Int32} {G_nodeOf : Nat → Int32} {G_sides : Nat → Int32} {G_waiting : Nat → Int32} {B_table : Nat → Int64} {B_nextTable : Nat → Int64}  {k : Int32 → Int32 → Int32 → Int32 → (Nat → Int64) → (Nat → Int64) → (Nat → Int64) → Prop}  (C0 : CX p s m args meth c b_B_follows 5 (some .int) R_B "follows" D ca tp A) :
    ∀ (n : Nat) (x4 : Int32) {H : Heap} {locs : List Loc} {ls : Array Slot}, p_B_follows_L65 F_cut F_labelledA F_labelledB F_row B_table B_nextTable k n x4 → WH D A s (WB ad ca T_length T_bytes C_size C_given C_empty C_drafted C_draftedGiven C_block C_left C_right C_pivot C_positive C_negative C_live C_needed R_kind R_place R_at R_token R_tokenPlace R_number R_state R_block R_positive R_negative R_left R_right R_pivot L_of F_cut F_labelledA F_labelledB F_row A_root A_words A_known G_size G_variable G_low G_high G_numberOf G_nodeOf G_sides G_waiting B_table B_nextTable) H locs → lv_has ls 5 [(0, .ref (ad 0)), (4, .int x4)] →
      W p l e rm_B_follows s m args below meth c H locs 0 0 (QI D A below args s (fun r (u : Int32 × Int32 × Int32 × (Nat → Int64) × (Nat → Int64) × (Nat → Int64)) => k r u.1 u.2.1 u.2.2.1 u.2.2.2.1 u.2.2.2.2.1 u.2.2.2.2.2) (fun (u : Int32 × Int32 × Int32 × (Nat → Int64) × (Nat → Int64) × (Nat → Int64)) => WB ad ca T_length T_bytes C_size C_given C_empty C_drafted C_draftedGiven C_block C_left C_right C_pivot C_positive C_negative C_live C_needed R_kind R_place R_at R_token R_tokenPlace R_number R_state R_block R_positive R_negative R_left R_right R_pivot L_of u.1 u.2.1 u.2.2.1 u.2.2.2.1 A_root A_words A_known G_size G_variable G_low G_high G_numberOf G_nodeOf G_sides G_waiting u.2.2.2.2.1 u.2.2.2.2.2) 0 0) (F0 m 65 ls []) := by
  have hx := C0.1
  have hb := C0.2.1
  intro n
  induction n with
  | zero =>
    intro x4 H locs ls h
    exact False.elim h
  | succ n ih =>
    intro x4 H locs ls h hw hl
    unfold p_B_follows_L65 at h
    refine lv_iload hx hb d_B_follows_65 (lv_at hl 1 rfl) ?_
    refine lv_bipush (v := 16) hx hb d_B_follows_67 (by decide) ?_
    refine lv_icmp_ge (tgt := 104) hx hb d_B_follows_69 (by decide) (fun c_20 => ?_) (fun c_20 => ?_)
    · have h := h.1 c_20
      refine lv_iconst (v := 1) hx hb d_B_follows_104 (by decide) ?_
      exact x_iret C0 hw (F_cut, F_labelledA, F_labelledB, F_row, B_table, B_nextTable) h rfl d_B_follows_105
    · have h := h.2 c_20
      refine lv_aload_n hx hb d_B_follows_72 rfl (lv_at hl 0 rfl) ?_
      refine x_get C0 hw 0 rfl rfl i_B 6 (by decide) wm_310 rfl rfl d_B_follows_73 ?_
      refine lv_iload hx hb d_B_follows_76 (lv_at hl 1 rfl) ?_
      obtain ⟨hi_21, h⟩ := h
      refine x_lald C0 hw 28 rfl hi_21 d_B_follows_78 ?_
      refine lv_aload_n hx hb d_B_follows_79 rfl (lv_at hl 0 rfl) ?_
      refine x_get C0 hw 0 rfl rfl i_B 7 (by decide) wm_311 rfl rfl d_B_follows_80 ?_
      refine lv_iload hx hb d_B_follows_83 (lv_at hl 1 rfl) ?_
      refine x_lald C0 hw 29 rfl hi_21 d_B_follows_85 ?_
      refine x_ldc2 C0 wm_684 d_B_follows_86 ?_
      refine lv_lxor hx hb d_B_follows_89 ?_
      refine lv_land hx hb d_B_follows_90 ?_
      refine lv_lconst (v := 0) hx hb d_B_follows_91 (by decide) ?_
      refine W.lcmp hx hb d_B_follows_92 ?_
      refine lv_if_eq (tgt := 98) hx hb d_B_follows_93 (by decide) (fun c_22 => ?_) (fun c_22 => ?_)
      · have h := h.1 c_22
        refine lv_iinc (v := (x4 + 1)) (lv' := [(4, .int (x4 + 1)), (0, .ref (ad 0))]) hx hb d_B_follows_98 hl (k := 1) rfl rfl (by decide) rfl (fun ls hl => ?_)
        refine lv_goto (tgt := 65) hx hb d_B_follows_101 (by decide) ?_
        exact ih _ h hw (lv_sub hl [1, 0] rfl)
      · have h := h.2 c_22
        refine lv_iconst (v := 0) hx hb d_B_follows_96 (by decide) ?_
        exact x_iret C0 hw (F_cut, F_labelledA, F_labelledB, F_row, B_table, B_nextTable) h rfl d_B_follows_97
set_option maxHeartbeats 4000000 in
set_option maxRecDepth 100000 in
theorem c_B_follows {l : Launch} {D : va_G} {ca : Nat → ClassId} {tp : Nat} {ad : Nat → Nat} {T_length : Int32} {T_bytes : Nat → Int32} {C_size : Int32} {C_given : Int32} {C_empty : Int32} {C_drafted : Int32} {C_draftedGiven : Int32} {C_block : Nat → Int32} {C_left : Nat → Int32} {C_right : Nat → Int32} {C_pivot : Nat → Int32} {C_positive : Nat → Int32} {C_negative : Nat → Int32} {C_live : Nat → Int32} {C_needed : Nat → Int32} {R_kind : Int32} {R_place : Int32} {R_at : Int32} {R_token : Int32} {R_tokenPlace : Int32} {R_number : Int32} {R_state : Int32} {R_block : Int32} {R_positive : Int32} {R_negative : Int32} {R_left : Int32} {R_right : Int32} {R_pivot : Int32} {L_of : Nat → Int32} {F_cut : Int32} {F_labelledA : Int32} {F_labelledB : Int32} {F_row : Nat → Int64} {A_root : Int32} {A_words : Nat → Int64} {A_known : Nat → Int32} {G_size : Int32} {G_variable : Nat → Int32} {G_low : Nat → Int32} {G_high : Nat → Int32} {G_numberOf : Nat → Int32} {G_nodeOf : Nat → Int32} {G_sides : Nat → Int32} {G_waiting : Nat → Int32} {B_table : Nat → Int64} {B_nextTable : Nat → Int64} {x1 : Int32} {x2 : Int32} {x3 : Int32} {k : Int32 → Int32 → Int32 → Int32 → (Nat → Int64) → (Nat → Int64) → (Nat → Int64) → Prop} (h : p_B_follows C_size C_empty C_block C_left C_right C_pivot C_positive C_negative C_needed L_of F_cut F_labelledA F_labelledB F_row B_table B_nextTable x1 x2 x3 k) :
    MTi l y_B_follows b_B_follows 5 (some .int) rm_B_follows D ca tp [.ref (ad 0), .int x1, .int x2, .int x3] (WB ad ca T_length T_bytes C_size C_given C_empty C_drafted C_draftedGiven C_block C_left C_right C_pivot C_positive C_negative C_live C_needed R_kind R_place R_at R_token R_tokenPlace R_number R_state R_block R_positive R_negative R_left R_right R_pivot L_of F_cut F_labelledA F_labelledB F_row A_root A_words A_known G_size G_variable G_low G_high G_numberOf G_nodeOf G_sides G_waiting B_table B_nextTable)
      (fun r (u : Int32 × Int32 × Int32 × (Nat → Int64) × (Nat → Int64) × (Nat → Int64)) => k r u.1 u.2.1 u.2.2.1 u.2.2.2.1 u.2.2.2.2.1 u.2.2.2.2.2)
      (fun (u : Int32 × Int32 × Int32 × (Nat → Int64) × (Nat → Int64) × (Nat → Int64)) => WB ad ca T_length T_bytes C_size C_given C_empty C_drafted C_draftedGiven C_block C_left C_right C_pivot C_positive C_negative C_live C_needed R_kind R_place R_at R_token R_tokenPlace R_number R_state R_block R_positive R_negative R_left R_right R_pivot L_of u.1 u.2.1 u.2.2.1 u.2.2.2.1 A_root A_words A_known G_size G_variable G_low G_high G_numberOf G_nodeOf G_sides G_waiting u.2.2.2.2.1 u.2.2.2.2.2) 0 0 := by
  refine x_entryi (own := R_B) (nm := "follows") (by decide) rfl rfl (Nat.le_of_ble_eq_true rfl) (fun p e s m below meth c A ls C0 hw hl => ?_)
  have hx := C0.1
  have hb := C0.2.1
  have hl : lv_has ls 5 [(0, .ref (ad 0)), (1, .int x1), (2, .int x2), (3, .int x3)] := hl
  unfold p_B_follows at h
  refine lv_iload_n hx hb d_B_follows_0 rfl (lv_at hl 1 rfl) ?_
  refine x_callSi C0 hw hl (c_B_isCut h) g_B_isCut wm_554 wm_555 (As := [.int x1]) (rest := []) rfl rfl (Nat.le_of_ble_eq_true rfl) ⟨rfl, rfl⟩ ⟨Nat.le_of_ble_eq_true rfl, Nat.le_of_ble_eq_true rfl⟩ ⟨Nat.le_of_ble_eq_true rfl, Nat.le_of_ble_eq_true rfl⟩ d_B_follows_1 (fun r_1 u H locs h hw => ?_)
  refine lv_if_eq (tgt := 21) hx hb d_B_follows_4 (by decide) (fun c_2 => ?_) (fun c_2 => ?_)
  · have h := h.1 c_2
    refine lv_bipush (v := -2) hx hb d_B_follows_21 (by decide) ?_
    exact x_iret C0 hw (F_cut, F_labelledA, F_labelledB, F_row, B_table, B_nextTable) h rfl d_B_follows_23
  · have h := h.2 c_2
    refine lv_iload_n hx hb d_B_follows_7 rfl (lv_at hl 2 rfl) ?_
    refine x_callSi C0 hw hl (c_B_isSystem h) g_B_isSystem wm_569 wm_570 (As := [.int x2]) (rest := []) rfl rfl (Nat.le_of_ble_eq_true rfl) ⟨rfl, rfl⟩ ⟨Nat.le_of_ble_eq_true rfl, Nat.le_of_ble_eq_true rfl⟩ ⟨Nat.le_of_ble_eq_true rfl, Nat.le_of_ble_eq_true rfl⟩ d_B_follows_8 (fun r_3 u H locs h hw => ?_)
    refine lv_if_eq (tgt := 21) hx hb d_B_follows_11 (by decide) (fun c_4 => ?_) (fun c_4 => ?_)
    · have h := h.1 c_4
      refine lv_bipush (v := -2) hx hb d_B_follows_21 (by decide) ?_
      exact x_iret C0 hw (F_cut, F_labelledA, F_labelledB, F_row, B_table, B_nextTable) h rfl d_B_follows_23
    · have h := h.2 c_4
      refine lv_iload_n hx hb d_B_follows_14 rfl (lv_at hl 3 rfl) ?_
      refine x_callSi C0 hw hl (c_B_isSystem h) g_B_isSystem wm_569 wm_570 (As := [.int x3]) (rest := []) rfl rfl (Nat.le_of_ble_eq_true rfl) ⟨rfl, rfl⟩ ⟨Nat.le_of_ble_eq_true rfl, Nat.le_of_ble_eq_true rfl⟩ ⟨Nat.le_of_ble_eq_true rfl, Nat.le_of_ble_eq_true rfl⟩ d_B_follows_15 (fun r_5 u H locs h hw => ?_)
      refine lv_if_ne (tgt := 24) hx hb d_B_follows_18 (by decide) (fun c_6 => ?_) (fun c_6 => ?_)
      · have h := h.1 c_6
        refine lv_aload_n hx hb d_B_follows_24 rfl (lv_at hl 0 rfl) ?_
        refine x_get C0 hw 0 rfl rfl i_B 1 (by decide) wm_305 rfl rfl d_B_follows_25 ?_
        refine x_getN C0 hw 3 rfl rfl i_C 10 (by decide) wm_124 rfl rfl d_B_follows_28 ?_
        refine lv_if_ne (tgt := 36) hx hb d_B_follows_31 (by decide) (fun c_7 => ?_) (fun c_7 => ?_)
        · have h := h.1 c_7
          refine lv_aload_n hx hb d_B_follows_36 rfl (lv_at hl 0 rfl) ?_
          refine x_get C0 hw 0 rfl rfl i_B 4 (by decide) wm_308 rfl rfl d_B_follows_37 ?_
          refine lv_iload_n hx hb d_B_follows_40 rfl (lv_at hl 1 rfl) ?_
          refine lv_iload_n hx hb d_B_follows_41 rfl (lv_at hl 2 rfl) ?_
          refine lv_aload_n hx hb d_B_follows_42 rfl (lv_at hl 0 rfl) ?_
          refine x_get C0 hw 0 rfl rfl i_B 6 (by decide) wm_310 rfl rfl d_B_follows_43 ?_
          refine x_callVv C0 hw hl (c_F_interpolantT h) g_F_interpolant wm_678 ⟨wm_680, wm_679⟩ 15 rfl rfl rfl (As := [.int x1, .int x2, .ref (ad 28)]) (rest := []) rfl rfl (Nat.le_of_ble_eq_true rfl) ⟨rfl, rfl⟩ ⟨Nat.le_of_ble_eq_true rfl, Nat.le_of_ble_eq_true rfl⟩ ⟨Nat.le_of_ble_eq_true rfl, Nat.le_of_ble_eq_true rfl⟩ d_B_follows_46 (fun u H locs h hw => ?_)
          obtain ⟨F_cut_8, F_labelledA_9, F_labelledB_10, F_row_11, B_table_12⟩ := u
          refine lv_aload_n hx hb d_B_follows_49 rfl (lv_at hl 0 rfl) ?_
          refine x_get C0 hw 0 rfl rfl i_B 4 (by decide) wm_308 rfl rfl d_B_follows_50 ?_
          refine lv_iload_n hx hb d_B_follows_53 rfl (lv_at hl 1 rfl) ?_
          refine lv_iload_n hx hb d_B_follows_54 rfl (lv_at hl 3 rfl) ?_
          refine lv_aload_n hx hb d_B_follows_55 rfl (lv_at hl 0 rfl) ?_
          refine x_get C0 hw 0 rfl rfl i_B 7 (by decide) wm_311 rfl rfl d_B_follows_56 ?_
          refine x_callVv C0 hw hl (c_F_interpolantN h) g_F_interpolant wm_678 ⟨wm_680, wm_679⟩ 15 rfl rfl rfl (As := [.int x1, .int x3, .ref (ad 29)]) (rest := []) rfl rfl (Nat.le_of_ble_eq_true rfl) ⟨rfl, rfl⟩ ⟨Nat.le_of_ble_eq_true rfl, Nat.le_of_ble_eq_true rfl⟩ ⟨Nat.le_of_ble_eq_true rfl, Nat.le_of_ble_eq_true rfl⟩ d_B_follows_59 (fun u H locs h hw => ?_)
          obtain ⟨F_cut_14, F_labelledA_15, F_labelledB_16, F_row_17, B_nextTable_18⟩ := u
          refine lv_iconst (v := 0) hx hb d_B_follows_62 (by decide) ?_
          refine lv_istore (lv' := [(4, .int (0 : Int32)), (0, .ref (ad 0)), (1, .int x1), (2, .int x2), (3, .int x3)]) hx hb d_B_follows_63 hl (by decide) rfl (fun ls hl => ?_)
          obtain ⟨j_23, h⟩ := h
          refine b_B_follows_L65 C0 _ _ h hw (lv_sub hl [1, 0] rfl)
        · have h := h.2 c_7
          refine lv_iconst (v := -1) hx hb d_B_follows_34 (by decide) ?_
          exact x_iret C0 hw (F_cut, F_labelledA, F_labelledB, F_row, B_table, B_nextTable) h rfl d_B_follows_35
      · have h := h.2 c_6
        refine lv_bipush (v := -2) hx hb d_B_follows_21 (by decide) ?_
        exact x_iret C0 hw (F_cut, F_labelledA, F_labelledB, F_row, B_table, B_nextTable) h rfl d_B_follows_23
theorem g_B_gap : GY y_B_gap b_B_gap 6 (some .int) 3 := ⟨wm_688, wm_53, by decide +kernel, by decide +kernel, by decide +kernel⟩
def p_B_gap_L68 (C_size : Int32) (C_block : Nat → Int32) (C_positive : Nat → Int32) (C_negative : Nat → Int32) (F_cut : Int32) (F_labelledA : Int32) (F_labelledB : Int32) (F_row : Nat → Int64) (B_table : Nat → Int64) (B_nextTable : Nat → Int64) (x1 : Int32) (x3 : Int32) (k : Int32 → Int32 → Int32 → Int32 → (Nat → Int64) → (Nat → Int64) → (Nat → Int64) → Prop) : Nat → Int32 → Int32 → Prop
  | 0, _, _ => False
  | n + 1, x4, x5 =>
    (((16 : Int32) ≤ x5 → (k x4 F_cut F_labelledA F_labelledB F_row B_table B_nextTable)) ∧ (¬ (16 : Int32) ≤ x5 → (p_B_gapWord C_size C_block C_positive C_negative B_table B_nextTable x1 x3 x5 (fun (r_16 : Int64) => (p_K_bitCount r_16 (fun (r_17 : Int32) => (p_B_gap_L68 C_size C_block C_positive C_negative F_cut F_labelledA F_labelledB F_row B_table B_nextTable x1 x3 k n (x4 + r_17) (x5 + 1))))))))
def p_B_gap_J62 (C_size : Int32) (C_block : Nat → Int32) (C_positive : Nat → Int32) (C_negative : Nat → Int32) (k : Int32 → Int32 → Int32 → Int32 → (Nat → Int64) → (Nat → Int64) → (Nat → Int64) → Prop) (x1 : Int32) (x3 : Int32) (F_cut : Int32) (F_labelledA : Int32) (F_labelledB : Int32) (F_row : Nat → Int64) (B_table : Nat → Int64) (B_nextTable : Nat → Int64) : Prop :=
  (∃ j_18, p_B_gap_L68 C_size C_block C_positive C_negative F_cut F_labelledA F_labelledB F_row B_table B_nextTable x1 x3 k j_18 (0 : Int32) (0 : Int32))
def p_B_gap (C_size : Int32) (C_empty : Int32) (C_block : Nat → Int32) (C_left : Nat → Int32) (C_right : Nat → Int32) (C_pivot : Nat → Int32) (C_positive : Nat → Int32) (C_negative : Nat → Int32) (C_needed : Nat → Int32) (L_of : Nat → Int32) (F_cut : Int32) (F_labelledA : Int32) (F_labelledB : Int32) (F_row : Nat → Int64) (B_table : Nat → Int64) (B_nextTable : Nat → Int64) (x1 : Int32) (x2 : Int32) (x3 : Int32) (k : Int32 → Int32 → Int32 → Int32 → (Nat → Int64) → (Nat → Int64) → (Nat → Int64) → Prop) : Prop :=
  (p_B_isCut x1 (fun (r_1 : Int32) => ((r_1 = 0 → (k (-2 : Int32) F_cut F_labelledA F_labelledB F_row B_table B_nextTable)) ∧ (¬ r_1 = 0 → (p_B_isSystem x2 (fun (r_3 : Int32) => ((¬ r_3 = 0 → ((C_empty = 0 → (k (-1 : Int32) F_cut F_labelledA F_labelledB F_row B_table B_nextTable)) ∧ (¬ C_empty = 0 → ((x3 < 0 → (k (-1 : Int32) F_cut F_labelledA F_labelledB F_row B_table B_nextTable)) ∧ (¬ x3 < 0 → ((x3 ≤ (2 : Int32) → (p_F_interpolantT C_size C_empty C_block C_left C_right C_pivot C_positive C_negative C_needed L_of F_row B_table x1 x2 (fun (F_cut_8 : Int32) (F_labelledA_9 : Int32) (F_labelledB_10 : Int32) (F_row_11 : Nat → Int64) (B_table_12 : Nat → Int64) => ((¬ x3 = (2 : Int32) → (p_B_gap_J62 C_size C_block C_positive C_negative k x1 x3 F_cut_8 F_labelledA_9 F_labelledB_10 F_row_11 B_table_12 B_nextTable)) ∧ (x3 = (2 : Int32) → (p_B_nextInterpolant C_size C_empty C_block C_left C_right C_pivot C_positive C_negative C_needed L_of F_cut_8 F_labelledA_9 F_labelledB_10 F_row_11 B_nextTable x1 x2 (fun (F_cut_19 : Int32) (F_labelledA_20 : Int32) (F_labelledB_21 : Int32) (F_row_22 : Nat → Int64) (B_nextTable_23 : Nat → Int64) => (p_B_gap_J62 C_size C_block C_positive C_negative k x1 x3 F_cut_19 F_labelledA_20 F_labelledB_21 F_row_22 B_table_12 B_nextTable_23)))))))) ∧ (¬ x3 ≤ (2 : Int32) → (k (-1 : Int32) F_cut F_labelledA F_labelledB F_row B_table B_nextTable)))))))) ∧ (r_3 = 0 → (k (-2 : Int32) F_cut F_labelledA F_labelledB F_row B_table B_nextTable)))))))))
abbrev rm_B_gap : Room := { frames := 6, cells := 0, slots := 0, locals := 138 }
set_option maxHeartbeats 4000000 in
set_option maxRecDepth 100000 in
theorem b_B_gap_L68 {p : Program} {l : Launch} {e : Env} {s : State} {m : MethodId} {args : Array Value} {below : List Frame} {meth : Method} {c : Code} {D : va_G} {ca : Nat → ClassId} {tp : Nat} {A : Nat → Prop} {ad : Nat → Nat} {T_length : Int32} {T_bytes : Nat → Int32} {C_size : Int32} {C_given : Int32} {C_empty : Int32} {C_drafted : Int32} {C_draftedGiven : Int32} {C_block : Nat → Int32} {C_left : Nat → Int32} {C_right : Nat → Int32} {C_pivot : Nat → Int32} {C_positive : Nat → Int32} {C_negative : Nat → Int32} {C_live : Nat → Int32} {C_needed : Nat → Int32} {R_kind : Int32} {R_place : Int32} {R_at : Int32} {R_token : Int32} {R_tokenPlace : Int32} {R_number : Int32} {R_state : Int32} {R_block : Int32} {R_positive : Int32} {R_negative : Int32} {R_left : Int32} {R_right : Int32} {R_pivot : Int32} {L_of : Nat → Int32} {F_cut : Int32} {F_labelledA : Int32} {F_labelledB : Int32} {F_row : Nat → Int64} {A_root : Int32} {A_words : Nat → Int64} {A_known : Nat → Int32} {G_size : Int32} {G_variable : Nat → Int32} {G_low : Nat → Int32} {G_high : Nat → Int32} {G_numberOf : Nat → Int32} {G_nodeOf : Nat → Int32} {G_sides : Nat → Int32} {G_waiting : Nat → Int32} {B_table : Nat → Int64} {B_nextTable : Nat → Int64} {x1 : Int32} {x3 : Int32} {k : Int32 → Int32 → Int32 → Int32 → (Nat → Int64) → (Nat → Int64) → (Nat → Int64) → Prop}  (C0 : CX p s m args meth c b_B_gap 6 (some .int) R_B "gap" D ca tp A) :
    ∀ (n : Nat) (x4 : Int32) (x5 : Int32) {H : Heap} {locs : List Loc} {ls : Array Slot}, p_B_gap_L68 C_size C_block C_positive C_negative F_cut F_labelledA F_labelledB F_row B_table B_nextTable x1 x3 k n x4 x5 → WH D A s (WB ad ca T_length T_bytes C_size C_given C_empty C_drafted C_draftedGiven C_block C_left C_right C_pivot C_positive C_negative C_live C_needed R_kind R_place R_at R_token R_tokenPlace R_number R_state R_block R_positive R_negative R_left R_right R_pivot L_of F_cut F_labelledA F_labelledB F_row A_root A_words A_known G_size G_variable G_low G_high G_numberOf G_nodeOf G_sides G_waiting B_table B_nextTable) H locs → lv_has ls 6 [(0, .ref (ad 0)), (1, .int x1), (3, .int x3), (4, .int x4), (5, .int x5)] →
      W p l e rm_B_gap s m args below meth c H locs 0 0 (QI D A below args s (fun r (u : Int32 × Int32 × Int32 × (Nat → Int64) × (Nat → Int64) × (Nat → Int64)) => k r u.1 u.2.1 u.2.2.1 u.2.2.2.1 u.2.2.2.2.1 u.2.2.2.2.2) (fun (u : Int32 × Int32 × Int32 × (Nat → Int64) × (Nat → Int64) × (Nat → Int64)) => WB ad ca T_length T_bytes C_size C_given C_empty C_drafted C_draftedGiven C_block C_left C_right C_pivot C_positive C_negative C_live C_needed R_kind R_place R_at R_token R_tokenPlace R_number R_state R_block R_positive R_negative R_left R_right R_pivot L_of u.1 u.2.1 u.2.2.1 u.2.2.2.1 A_root A_words A_known G_size G_variable G_low G_high G_numberOf G_nodeOf G_sides G_waiting u.2.2.2.2.1 u.2.2.2.2.2) 0 0) (F0 m 68 ls []) := by
  have hx := C0.1
  have hb := C0.2.1
  intro n
  induction n with
  | zero =>
    intro x4 x5 H locs ls h
    exact False.elim h
  | succ n ih =>
    intro x4 x5 H locs ls h hw hl
    unfold p_B_gap_L68 at h
    refine lv_iload hx hb d_B_gap_68 (lv_at hl 4 rfl) ?_
    refine lv_bipush (v := 16) hx hb d_B_gap_70 (by decide) ?_
    refine lv_icmp_ge (tgt := 97) hx hb d_B_gap_72 (by decide) (fun c_15 => ?_) (fun c_15 => ?_)
    · have h := h.1 c_15
      refine lv_iload hx hb d_B_gap_97 (lv_at hl 3 rfl) ?_
      exact x_iret C0 hw (F_cut, F_labelledA, F_labelledB, F_row, B_table, B_nextTable) h rfl d_B_gap_99
    · have h := h.2 c_15
      refine lv_iload hx hb d_B_gap_75 (lv_at hl 3 rfl) ?_
      refine lv_aload_n hx hb d_B_gap_77 rfl (lv_at hl 0 rfl) ?_
      refine lv_iload_n hx hb d_B_gap_78 rfl (lv_at hl 1 rfl) ?_
      refine lv_iload_n hx hb d_B_gap_79 rfl (lv_at hl 2 rfl) ?_
      refine lv_iload hx hb d_B_gap_80 (lv_at hl 4 rfl) ?_
      refine x_callVl C0 hw hl (c_B_gapWord h) g_B_gapWord wm_696 ⟨wm_32, wm_698⟩ 0 rfl rfl rfl (As := [.int x1, .int x3, .int x5]) (rest := [.int x4]) rfl rfl (Nat.le_of_ble_eq_true rfl) ⟨rfl, rfl⟩ ⟨Nat.le_of_ble_eq_true rfl, Nat.le_of_ble_eq_true rfl⟩ ⟨Nat.le_of_ble_eq_true rfl, Nat.le_of_ble_eq_true rfl⟩ d_B_gap_82 (fun r_16 u H locs h hw => ?_)
      refine x_callSi C0 hw hl (c_K_bitCount h) g_K_bitCount wm_706 wm_653 (As := [.long r_16]) (rest := [.int x4]) rfl rfl (Nat.le_of_ble_eq_true rfl) ⟨rfl, rfl⟩ ⟨Nat.le_of_ble_eq_true rfl, Nat.le_of_ble_eq_true rfl⟩ ⟨Nat.le_of_ble_eq_true rfl, Nat.le_of_ble_eq_true rfl⟩ d_B_gap_85 (fun r_17 u H locs h hw => ?_)
      refine lv_iadd hx hb d_B_gap_88 ?_
      refine lv_istore (lv' := [(4, .int (x4 + r_17)), (0, .ref (ad 0)), (1, .int x1), (3, .int x3), (5, .int x5)]) hx hb d_B_gap_89 hl (by decide) rfl (fun ls hl => ?_)
      refine lv_iinc (v := (x5 + 1)) (lv' := [(5, .int (x5 + 1)), (4, .int (x4 + r_17)), (0, .ref (ad 0)), (1, .int x1), (3, .int x3)]) hx hb d_B_gap_91 hl (k := 4) rfl rfl (by decide) rfl (fun ls hl => ?_)
      refine lv_goto (tgt := 68) hx hb d_B_gap_94 (by decide) ?_
      exact ih _ _ h hw (lv_sub hl [2, 3, 4, 1, 0] rfl)
set_option maxHeartbeats 4000000 in
set_option maxRecDepth 100000 in
theorem b_B_gap_J62 {p : Program} {l : Launch} {e : Env} {s : State} {m : MethodId} {args : Array Value} {below : List Frame} {meth : Method} {c : Code} {D : va_G} {ca : Nat → ClassId} {tp : Nat} {A : Nat → Prop} {ad : Nat → Nat} {T_length : Int32} {T_bytes : Nat → Int32} {C_size : Int32} {C_given : Int32} {C_empty : Int32} {C_drafted : Int32} {C_draftedGiven : Int32} {C_block : Nat → Int32} {C_left : Nat → Int32} {C_right : Nat → Int32} {C_pivot : Nat → Int32} {C_positive : Nat → Int32} {C_negative : Nat → Int32} {C_live : Nat → Int32} {C_needed : Nat → Int32} {R_kind : Int32} {R_place : Int32} {R_at : Int32} {R_token : Int32} {R_tokenPlace : Int32} {R_number : Int32} {R_state : Int32} {R_block : Int32} {R_positive : Int32} {R_negative : Int32} {R_left : Int32} {R_right : Int32} {R_pivot : Int32} {L_of : Nat → Int32} {A_root : Int32} {A_words : Nat → Int64} {A_known : Nat → Int32} {G_size : Int32} {G_variable : Nat → Int32} {G_low : Nat → Int32} {G_high : Nat → Int32} {G_numberOf : Nat → Int32} {G_nodeOf : Nat → Int32} {G_sides : Nat → Int32} {G_waiting : Nat → Int32}  {k : Int32 → Int32 → Int32 → Int32 → (Nat → Int64) → (Nat → Int64) → (Nat → Int64) → Prop}  (C0 : CX p s m args meth c b_B_gap 6 (some .int) R_B "gap" D ca tp A) :
    ∀ (x1 : Int32) (x3 : Int32) (F_cut : Int32) (F_labelledA : Int32) (F_labelledB : Int32) (F_row : Nat → Int64) (B_table : Nat → Int64) (B_nextTable : Nat → Int64) {H : Heap} {locs : List Loc} {ls : Array Slot}, p_B_gap_J62 C_size C_block C_positive C_negative k x1 x3 F_cut F_labelledA F_labelledB F_row B_table B_nextTable → WH D A s (WB ad ca T_length T_bytes C_size C_given C_empty C_drafted C_draftedGiven C_block C_left C_right C_pivot C_positive C_negative C_live C_needed R_kind R_place R_at R_token R_tokenPlace R_number R_state R_block R_positive R_negative R_left R_right R_pivot L_of F_cut F_labelledA F_labelledB F_row A_root A_words A_known G_size G_variable G_low G_high G_numberOf G_nodeOf G_sides G_waiting B_table B_nextTable) H locs → lv_has ls 6 [(0, .ref (ad 0)), (1, .int x1), (3, .int x3)] →
      W p l e rm_B_gap s m args below meth c H locs 0 0 (QI D A below args s (fun r (u : Int32 × Int32 × Int32 × (Nat → Int64) × (Nat → Int64) × (Nat → Int64)) => k r u.1 u.2.1 u.2.2.1 u.2.2.2.1 u.2.2.2.2.1 u.2.2.2.2.2) (fun (u : Int32 × Int32 × Int32 × (Nat → Int64) × (Nat → Int64) × (Nat → Int64)) => WB ad ca T_length T_bytes C_size C_given C_empty C_drafted C_draftedGiven C_block C_left C_right C_pivot C_positive C_negative C_live C_needed R_kind R_place R_at R_token R_tokenPlace R_number R_state R_block R_positive R_negative R_left R_right R_pivot L_of u.1 u.2.1 u.2.2.1 u.2.2.2.1 A_root A_words A_known G_size G_variable G_low G_high G_numberOf G_nodeOf G_sides G_waiting u.2.2.2.2.1 u.2.2.2.2.2) 0 0) (F0 m 62 ls []) := by
  have hx := C0.1
  have hb := C0.2.1
  intro x1 x3 F_cut F_labelledA F_labelledB F_row B_table B_nextTable H locs ls h hw hl
  unfold p_B_gap_J62 at h
  refine lv_iconst (v := 0) hx hb d_B_gap_62 (by decide) ?_
  refine lv_istore (lv' := [(4, .int (0 : Int32)), (0, .ref (ad 0)), (1, .int x1), (3, .int x3)]) hx hb d_B_gap_63 hl (by decide) rfl (fun ls hl => ?_)
  refine lv_iconst (v := 0) hx hb d_B_gap_65 (by decide) ?_
  refine lv_istore (lv' := [(5, .int (0 : Int32)), (4, .int (0 : Int32)), (0, .ref (ad 0)), (1, .int x1), (3, .int x3)]) hx hb d_B_gap_66 hl (by decide) rfl (fun ls hl => ?_)
  obtain ⟨j_18, h⟩ := h
  refine b_B_gap_L68 C0 _ _ _ h hw (lv_sub hl [2, 3, 4, 1, 0] rfl)
set_option maxHeartbeats 4000000 in
set_option maxRecDepth 100000 in
theorem c_B_gap {l : Launch} {D : va_G} {ca : Nat → ClassId} {tp : Nat} {ad : Nat → Nat} {T_length : Int32} {T_bytes : Nat → Int32} {C_size : Int32} {C_given : Int32} {C_empty : Int32} {C_drafted : Int32} {C_draftedGiven : Int32} {C_block : Nat → Int32} {C_left : Nat → Int32} {C_right : Nat → Int32} {C_pivot : Nat → Int32} {C_positive : Nat → Int32} {C_negative : Nat → Int32} {C_live : Nat → Int32} {C_needed : Nat → Int32} {R_kind : Int32} {R_place : Int32} {R_at : Int32} {R_token : Int32} {R_tokenPlace : Int32} {R_number : Int32} {R_state : Int32} {R_block : Int32} {R_positive : Int32} {R_negative : Int32} {R_left : Int32} {R_right : Int32} {R_pivot : Int32} {L_of : Nat → Int32} {F_cut : Int32} {F_labelledA : Int32} {F_labelledB : Int32} {F_row : Nat → Int64} {A_root : Int32} {A_words : Nat → Int64} {A_known : Nat → Int32} {G_size : Int32} {G_variable : Nat → Int32} {G_low : Nat → Int32} {G_high : Nat → Int32} {G_numberOf : Nat → Int32} {G_nodeOf : Nat → Int32} {G_sides : Nat → Int32} {G_waiting : Nat → Int32} {B_table : Nat → Int64} {B_nextTable : Nat → Int64} {x1 : Int32} {x2 : Int32} {x3 : Int32} {k : Int32 → Int32 → Int32 → Int32 → (Nat → Int64) → (Nat → Int64) → (Nat → Int64) → Prop} (h : p_B_gap C_size C_empty C_block C_left C_right C_pivot C_positive C_negative C_needed L_of F_cut F_labelledA F_labelledB F_row B_table B_nextTable x1 x2 x3 k) :
    MTi l y_B_gap b_B_gap 6 (some .int) rm_B_gap D ca tp [.ref (ad 0), .int x1, .int x2, .int x3] (WB ad ca T_length T_bytes C_size C_given C_empty C_drafted C_draftedGiven C_block C_left C_right C_pivot C_positive C_negative C_live C_needed R_kind R_place R_at R_token R_tokenPlace R_number R_state R_block R_positive R_negative R_left R_right R_pivot L_of F_cut F_labelledA F_labelledB F_row A_root A_words A_known G_size G_variable G_low G_high G_numberOf G_nodeOf G_sides G_waiting B_table B_nextTable)
      (fun r (u : Int32 × Int32 × Int32 × (Nat → Int64) × (Nat → Int64) × (Nat → Int64)) => k r u.1 u.2.1 u.2.2.1 u.2.2.2.1 u.2.2.2.2.1 u.2.2.2.2.2)
      (fun (u : Int32 × Int32 × Int32 × (Nat → Int64) × (Nat → Int64) × (Nat → Int64)) => WB ad ca T_length T_bytes C_size C_given C_empty C_drafted C_draftedGiven C_block C_left C_right C_pivot C_positive C_negative C_live C_needed R_kind R_place R_at R_token R_tokenPlace R_number R_state R_block R_positive R_negative R_left R_right R_pivot L_of u.1 u.2.1 u.2.2.1 u.2.2.2.1 A_root A_words A_known G_size G_variable G_low G_high G_numberOf G_nodeOf G_sides G_waiting u.2.2.2.2.1 u.2.2.2.2.2) 0 0 := by
  refine x_entryi (own := R_B) (nm := "gap") (by decide) rfl rfl (Nat.le_of_ble_eq_true rfl) (fun p e s m below meth c A ls C0 hw hl => ?_)
  have hx := C0.1
  have hb := C0.2.1
  have hl : lv_has ls 6 [(0, .ref (ad 0)), (1, .int x1), (2, .int x2), (3, .int x3)] := hl
  unfold p_B_gap at h
  refine lv_iload_n hx hb d_B_gap_0 rfl (lv_at hl 1 rfl) ?_
  refine x_callSi C0 hw hl (c_B_isCut h) g_B_isCut wm_554 wm_555 (As := [.int x1]) (rest := []) rfl rfl (Nat.le_of_ble_eq_true rfl) ⟨rfl, rfl⟩ ⟨Nat.le_of_ble_eq_true rfl, Nat.le_of_ble_eq_true rfl⟩ ⟨Nat.le_of_ble_eq_true rfl, Nat.le_of_ble_eq_true rfl⟩ d_B_gap_1 (fun r_1 u H locs h hw => ?_)
  refine lv_if_eq (tgt := 14) hx hb d_B_gap_4 (by decide) (fun c_2 => ?_) (fun c_2 => ?_)
  · have h := h.1 c_2
    refine lv_bipush (v := -2) hx hb d_B_gap_14 (by decide) ?_
    exact x_iret C0 hw (F_cut, F_labelledA, F_labelledB, F_row, B_table, B_nextTable) h rfl d_B_gap_16
  · have h := h.2 c_2
    refine lv_iload_n hx hb d_B_gap_7 rfl (lv_at hl 2 rfl) ?_
    refine x_callSi C0 hw hl (c_B_isSystem h) g_B_isSystem wm_569 wm_570 (As := [.int x2]) (rest := []) rfl rfl (Nat.le_of_ble_eq_true rfl) ⟨rfl, rfl⟩ ⟨Nat.le_of_ble_eq_true rfl, Nat.le_of_ble_eq_true rfl⟩ ⟨Nat.le_of_ble_eq_true rfl, Nat.le_of_ble_eq_true rfl⟩ d_B_gap_8 (fun r_3 u H locs h hw => ?_)
    refine lv_if_ne (tgt := 17) hx hb d_B_gap_11 (by decide) (fun c_4 => ?_) (fun c_4 => ?_)
    · have h := h.1 c_4
      refine lv_aload_n hx hb d_B_gap_17 rfl (lv_at hl 0 rfl) ?_
      refine x_get C0 hw 0 rfl rfl i_B 1 (by decide) wm_305 rfl rfl d_B_gap_18 ?_
      refine x_getN C0 hw 3 rfl rfl i_C 10 (by decide) wm_124 rfl rfl d_B_gap_21 ?_
      refine lv_if_eq (tgt := 36) hx hb d_B_gap_24 (by decide) (fun c_5 => ?_) (fun c_5 => ?_)
      · have h := h.1 c_5
        refine lv_iconst (v := -1) hx hb d_B_gap_36 (by decide) ?_
        exact x_iret C0 hw (F_cut, F_labelledA, F_labelledB, F_row, B_table, B_nextTable) h rfl d_B_gap_37
      · have h := h.2 c_5
        refine lv_iload_n hx hb d_B_gap_27 rfl (lv_at hl 3 rfl) ?_
        refine lv_if_lt (tgt := 36) hx hb d_B_gap_28 (by decide) (fun c_6 => ?_) (fun c_6 => ?_)
        · have h := h.1 c_6
          refine lv_iconst (v := -1) hx hb d_B_gap_36 (by decide) ?_
          exact x_iret C0 hw (F_cut, F_labelledA, F_labelledB, F_row, B_table, B_nextTable) h rfl d_B_gap_37
        · have h := h.2 c_6
          refine lv_iload_n hx hb d_B_gap_31 rfl (lv_at hl 3 rfl) ?_
          refine lv_iconst (v := 2) hx hb d_B_gap_32 (by decide) ?_
          refine lv_icmp_le (tgt := 38) hx hb d_B_gap_33 (by decide) (fun c_7 => ?_) (fun c_7 => ?_)
          · have h := h.1 c_7
            refine lv_aload_n hx hb d_B_gap_38 rfl (lv_at hl 0 rfl) ?_
            refine x_get C0 hw 0 rfl rfl i_B 4 (by decide) wm_308 rfl rfl d_B_gap_39 ?_
            refine lv_iload_n hx hb d_B_gap_42 rfl (lv_at hl 1 rfl) ?_
            refine lv_iload_n hx hb d_B_gap_43 rfl (lv_at hl 2 rfl) ?_
            refine lv_aload_n hx hb d_B_gap_44 rfl (lv_at hl 0 rfl) ?_
            refine x_get C0 hw 0 rfl rfl i_B 6 (by decide) wm_310 rfl rfl d_B_gap_45 ?_
            refine x_callVv C0 hw hl (c_F_interpolantT h) g_F_interpolant wm_678 ⟨wm_680, wm_679⟩ 15 rfl rfl rfl (As := [.int x1, .int x2, .ref (ad 28)]) (rest := []) rfl rfl (Nat.le_of_ble_eq_true rfl) ⟨rfl, rfl⟩ ⟨Nat.le_of_ble_eq_true rfl, Nat.le_of_ble_eq_true rfl⟩ ⟨Nat.le_of_ble_eq_true rfl, Nat.le_of_ble_eq_true rfl⟩ d_B_gap_48 (fun u H locs h hw => ?_)
            obtain ⟨F_cut_8, F_labelledA_9, F_labelledB_10, F_row_11, B_table_12⟩ := u
            refine lv_iload_n hx hb d_B_gap_51 rfl (lv_at hl 3 rfl) ?_
            refine lv_iconst (v := 2) hx hb d_B_gap_52 (by decide) ?_
            refine lv_icmp_ne (tgt := 62) hx hb d_B_gap_53 (by decide) (fun c_14 => ?_) (fun c_14 => ?_)
            · have h := h.1 c_14
              refine b_B_gap_J62 C0 _ _ _ _ _ _ _ _ h hw (lv_sub hl [0, 1, 3] rfl)
            · have h := h.2 c_14
              refine lv_aload_n hx hb d_B_gap_56 rfl (lv_at hl 0 rfl) ?_
              refine lv_iload_n hx hb d_B_gap_57 rfl (lv_at hl 1 rfl) ?_
              refine lv_iload_n hx hb d_B_gap_58 rfl (lv_at hl 2 rfl) ?_
              refine x_callVv C0 hw hl (c_B_nextInterpolant h) g_B_nextInterpolant wm_689 ⟨wm_31, wm_691⟩ 0 rfl rfl rfl (As := [.int x1, .int x2]) (rest := []) rfl rfl (Nat.le_of_ble_eq_true rfl) ⟨rfl, rfl⟩ ⟨Nat.le_of_ble_eq_true rfl, Nat.le_of_ble_eq_true rfl⟩ ⟨Nat.le_of_ble_eq_true rfl, Nat.le_of_ble_eq_true rfl⟩ d_B_gap_59 (fun u H locs h hw => ?_)
              obtain ⟨F_cut_19, F_labelledA_20, F_labelledB_21, F_row_22, B_nextTable_23⟩ := u
              refine b_B_gap_J62 C0 _ _ _ _ _ _ _ _ h hw (lv_sub hl [0, 1, 3] rfl)
          · have h := h.2 c_7
            refine lv_iconst (v := -1) hx hb d_B_gap_36 (by decide) ?_
            exact x_iret C0 hw (F_cut, F_labelledA, F_labelledB, F_row, B_table, B_nextTable) h rfl d_B_gap_37
    · have h := h.2 c_4
      refine lv_bipush (v := -2) hx hb d_B_gap_14 (by decide) ?_
      exact x_iret C0 hw (F_cut, F_labelledA, F_labelledB, F_row, B_table, B_nextTable) h rfl d_B_gap_16
theorem g_B_count : GY y_B_count b_B_count 2 (some .int) 1 := ⟨wm_710, wm_53, by decide +kernel, by decide +kernel, by decide +kernel⟩
def p_B_count (T_length : Int32) (C_size : Int32) (C_given : Int32) (C_empty : Int32) (C_live : Nat → Int32) (C_needed : Nat → Int32) (x1 : Int32) (k : Int32 → Prop) : Prop :=
  ((x1 = (0 : Int32) → (k C_size)) ∧ (x1 = (1 : Int32) → (k C_given)) ∧ (x1 = (2 : Int32) → (p_C_liveOnes C_size C_live (fun (r_4 : Int32) => (k r_4)))) ∧ (x1 = (3 : Int32) → (p_C_neededOnes C_empty C_needed (fun (r_6 : Int32) => (k r_6)))) ∧ (x1 = (4 : Int32) → (k T_length)) ∧ (¬ x1 = (0 : Int32) → ¬ x1 = (1 : Int32) → ¬ x1 = (2 : Int32) → ¬ x1 = (3 : Int32) → ¬ x1 = (4 : Int32) → (k (-1 : Int32))))
abbrev rm_B_count : Room := { frames := 1, cells := 0, slots := 0, locals := 22 }
set_option maxHeartbeats 4000000 in
set_option maxRecDepth 100000 in
theorem c_B_count {l : Launch} {D : va_G} {ca : Nat → ClassId} {tp : Nat} {ad : Nat → Nat} {T_length : Int32} {T_bytes : Nat → Int32} {C_size : Int32} {C_given : Int32} {C_empty : Int32} {C_drafted : Int32} {C_draftedGiven : Int32} {C_block : Nat → Int32} {C_left : Nat → Int32} {C_right : Nat → Int32} {C_pivot : Nat → Int32} {C_positive : Nat → Int32} {C_negative : Nat → Int32} {C_live : Nat → Int32} {C_needed : Nat → Int32} {R_kind : Int32} {R_place : Int32} {R_at : Int32} {R_token : Int32} {R_tokenPlace : Int32} {R_number : Int32} {R_state : Int32} {R_block : Int32} {R_positive : Int32} {R_negative : Int32} {R_left : Int32} {R_right : Int32} {R_pivot : Int32} {L_of : Nat → Int32} {F_cut : Int32} {F_labelledA : Int32} {F_labelledB : Int32} {F_row : Nat → Int64} {A_root : Int32} {A_words : Nat → Int64} {A_known : Nat → Int32} {G_size : Int32} {G_variable : Nat → Int32} {G_low : Nat → Int32} {G_high : Nat → Int32} {G_numberOf : Nat → Int32} {G_nodeOf : Nat → Int32} {G_sides : Nat → Int32} {G_waiting : Nat → Int32} {B_table : Nat → Int64} {B_nextTable : Nat → Int64} {x1 : Int32} {k : Int32 → Prop} (h : p_B_count T_length C_size C_given C_empty C_live C_needed x1 k) :
    MTi l y_B_count b_B_count 2 (some .int) rm_B_count D ca tp [.ref (ad 0), .int x1] (WB ad ca T_length T_bytes C_size C_given C_empty C_drafted C_draftedGiven C_block C_left C_right C_pivot C_positive C_negative C_live C_needed R_kind R_place R_at R_token R_tokenPlace R_number R_state R_block R_positive R_negative R_left R_right R_pivot L_of F_cut F_labelledA F_labelledB F_row A_root A_words A_known G_size G_variable G_low G_high G_numberOf G_nodeOf G_sides G_waiting B_table B_nextTable)
      (fun r (_ : Unit) => k r)
      (fun (_ : Unit) => WB ad ca T_length T_bytes C_size C_given C_empty C_drafted C_draftedGiven C_block C_left C_right C_pivot C_positive C_negative C_live C_needed R_kind R_place R_at R_token R_tokenPlace R_number R_state R_block R_positive R_negative R_left R_right R_pivot L_of F_cut F_labelledA F_labelledB F_row A_root A_words A_known G_size G_variable G_low G_high G_numberOf G_nodeOf G_sides G_waiting B_table B_nextTable) 0 0 := by
  refine x_entryi (own := R_B) (nm := "count") (by decide) rfl rfl (Nat.le_of_ble_eq_true rfl) (fun p e s m below meth c A ls C0 hw hl => ?_)
  have hx := C0.1
  have hb := C0.2.1
  have hl : lv_has ls 2 [(0, .ref (ad 0)), (1, .int x1)] := hl
  unfold p_B_count at h
  refine lv_iload_n hx hb d_B_count_0 rfl (lv_at hl 1 rfl) ?_
  by_cases c_1 : x1 = (0 : Int32)
  · have h := h.1 c_1
    refine lv_tableIn (tgt := 36) (off := 35) hx hb d_B_count_1 (by rw [c_1]; decide) (by rw [c_1]; decide) (by rw [c_1]; rfl) (by decide) ?_
    refine lv_aload_n hx hb d_B_count_36 rfl (lv_at hl 0 rfl) ?_
    refine x_get C0 hw 0 rfl rfl i_B 1 (by decide) wm_305 rfl rfl d_B_count_37 ?_
    refine x_getN C0 hw 3 rfl rfl i_C 8 (by decide) wm_119 rfl rfl d_B_count_40 ?_
    exact x_iret C0 hw () h rfl d_B_count_43
  by_cases c_2 : x1 = (1 : Int32)
  · have h := h.2.1 c_2
    refine lv_tableIn (tgt := 44) (off := 43) hx hb d_B_count_1 (by rw [c_2]; decide) (by rw [c_2]; decide) (by rw [c_2]; rfl) (by decide) ?_
    refine lv_aload_n hx hb d_B_count_44 rfl (lv_at hl 0 rfl) ?_
    refine x_get C0 hw 0 rfl rfl i_B 1 (by decide) wm_305 rfl rfl d_B_count_45 ?_
    refine x_getN C0 hw 3 rfl rfl i_C 9 (by decide) wm_121 rfl rfl d_B_count_48 ?_
    exact x_iret C0 hw () h rfl d_B_count_51
  by_cases c_3 : x1 = (2 : Int32)
  · have h := h.2.2.1 c_3
    refine lv_tableIn (tgt := 52) (off := 51) hx hb d_B_count_1 (by rw [c_3]; decide) (by rw [c_3]; decide) (by rw [c_3]; rfl) (by decide) ?_
    refine lv_aload_n hx hb d_B_count_52 rfl (lv_at hl 0 rfl) ?_
    refine x_get C0 hw 0 rfl rfl i_B 1 (by decide) wm_305 rfl rfl d_B_count_53 ?_
    refine x_callVi C0 hw hl (c_C_liveOnes h) g_C_liveOnes wm_711 ⟨wm_713, wm_712⟩ 3 rfl rfl rfl (As := []) (rest := []) rfl rfl (Nat.le_of_ble_eq_true rfl) ⟨rfl, rfl⟩ ⟨Nat.le_of_ble_eq_true rfl, Nat.le_of_ble_eq_true rfl⟩ ⟨Nat.le_of_ble_eq_true rfl, Nat.le_of_ble_eq_true rfl⟩ d_B_count_56 (fun r_4 u H locs h hw => ?_)
    exact x_iret C0 hw () h rfl d_B_count_59
  by_cases c_5 : x1 = (3 : Int32)
  · have h := h.2.2.2.1 c_5
    refine lv_tableIn (tgt := 60) (off := 59) hx hb d_B_count_1 (by rw [c_5]; decide) (by rw [c_5]; decide) (by rw [c_5]; rfl) (by decide) ?_
    refine lv_aload_n hx hb d_B_count_60 rfl (lv_at hl 0 rfl) ?_
    refine x_get C0 hw 0 rfl rfl i_B 1 (by decide) wm_305 rfl rfl d_B_count_61 ?_
    refine x_callVi C0 hw hl (c_C_neededOnes h) g_C_neededOnes wm_715 ⟨wm_717, wm_716⟩ 3 rfl rfl rfl (As := []) (rest := []) rfl rfl (Nat.le_of_ble_eq_true rfl) ⟨rfl, rfl⟩ ⟨Nat.le_of_ble_eq_true rfl, Nat.le_of_ble_eq_true rfl⟩ ⟨Nat.le_of_ble_eq_true rfl, Nat.le_of_ble_eq_true rfl⟩ d_B_count_64 (fun r_6 u H locs h hw => ?_)
    exact x_iret C0 hw () h rfl d_B_count_67
  by_cases c_7 : x1 = (4 : Int32)
  · have h := h.2.2.2.2.1 c_7
    refine lv_tableIn (tgt := 68) (off := 67) hx hb d_B_count_1 (by rw [c_7]; decide) (by rw [c_7]; decide) (by rw [c_7]; rfl) (by decide) ?_
    refine lv_aload_n hx hb d_B_count_68 rfl (lv_at hl 0 rfl) ?_
    refine x_get C0 hw 0 rfl rfl i_B 0 (by decide) wm_304 rfl rfl d_B_count_69 ?_
    refine x_getN C0 hw 1 rfl rfl i_T 1 (by decide) wm_80 rfl rfl d_B_count_72 ?_
    exact x_iret C0 hw () h rfl d_B_count_75
  have h := h.2.2.2.2.2 c_1 c_2 c_3 c_5 c_7
  refine lv_tableOut (tgt := 76) hx hb d_B_count_1 (by have q0 := lv_neT c_1 (a := 0) rfl; have q1 := lv_neT c_2 (a := 1) rfl; have q2 := lv_neT c_3 (a := 2) rfl; have q3 := lv_neT c_5 (a := 3) rfl; have q4 := lv_neT c_7 (a := 4) rfl; omega) (by decide) ?_
  refine lv_iconst (v := -1) hx hb d_B_count_76 (by decide) ?_
  exact x_iret C0 hw () h rfl d_B_count_77

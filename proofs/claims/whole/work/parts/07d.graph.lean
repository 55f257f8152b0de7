theorem g_G_bitAt : GY y_G_bitAt b_G_bitAt 4 (some .int) 3 := ⟨wm_621, wm_61, by decide +kernel, by decide +kernel, by decide +kernel⟩
def p_G_bitAt (A_words : Nat → Int64) (x1 : Int32) (x2 : Int32) (k : Int32 → Prop) : Prop :=
  ((x2 < 0 → (k (0 : Int32))) ∧ (¬ x2 < 0 → (((x1 + (x2 / (64 : Int32))) < 0 → (k (0 : Int32))) ∧ (¬ (x1 + (x2 / (64 : Int32))) < 0 → (((x1 + (x2 / (64 : Int32))) < (3216 : Int32) → (vp_in (x1 + (x2 / (64 : Int32))) 3216 ∧ (k (((J_lushr (A_words (x1 + (x2 / (64 : Int32))).toNatClampNeg) (x2 - x2 / (64 : Int32) * (64 : Int32))) &&& (1 : Int64)).toInt32)))) ∧ (¬ (x1 + (x2 / (64 : Int32))) < (3216 : Int32) → (k (0 : Int32))))))))
abbrev rm_G_bitAt : Room := { frames := 0, cells := 0, slots := 0, locals := 0 }
set_option maxHeartbeats 4000000 in
set_option maxRecDepth 100000 in
theorem c_G_bitAt {l : Launch} {D : va_G} {ca : Nat → ClassId} {tp : Nat} {ad : Nat → Nat} {T_length : Int32} {T_bytes : Nat → Int32} {C_size : Int32} {C_given : Int32} {C_empty : Int32} {C_drafted : Int32} {C_draftedGiven : Int32} {C_block : Nat → Int32} {C_left : Nat → Int32} {C_right : Nat → Int32} {C_pivot : Nat → Int32} {C_positive : Nat → Int32} {C_negative : Nat → Int32} {C_live : Nat → Int32} {C_needed : Nat → Int32} {R_kind : Int32} {R_place : Int32} {R_at : Int32} {R_token : Int32} {R_tokenPlace : Int32} {R_number : Int32} {R_state : Int32} {R_block : Int32} {R_positive : Int32} {R_negative : Int32} {R_left : Int32} {R_right : Int32} {R_pivot : Int32} {L_of : Nat → Int32} {F_cut : Int32} {F_labelledA : Int32} {F_labelledB : Int32} {F_row : Nat → Int64} {A_root : Int32} {A_words : Nat → Int64} {A_known : Nat → Int32} {G_size : Int32} {G_variable : Nat → Int32} {G_low : Nat → Int32} {G_high : Nat → Int32} {G_numberOf : Nat → Int32} {G_nodeOf : Nat → Int32} {G_sides : Nat → Int32} {G_waiting : Nat → Int32} {B_table : Nat → Int64} {B_nextTable : Nat → Int64} {x1 : Int32} {x2 : Int32} {k : Int32 → Prop} (h : p_G_bitAt A_words x1 x2 k) :
    MTi l y_G_bitAt b_G_bitAt 4 (some .int) rm_G_bitAt D ca tp [.ref (ad 18), .int x1, .int x2] (WB ad ca T_length T_bytes C_size C_given C_empty C_drafted C_draftedGiven C_block C_left C_right C_pivot C_positive C_negative C_live C_needed R_kind R_place R_at R_token R_tokenPlace R_number R_state R_block R_positive R_negative R_left R_right R_pivot L_of F_cut F_labelledA F_labelledB F_row A_root A_words A_known G_size G_variable G_low G_high G_numberOf G_nodeOf G_sides G_waiting B_table B_nextTable)
      (fun r (_ : Unit) => k r)
      (fun (_ : Unit) => WB ad ca T_length T_bytes C_size C_given C_empty C_drafted C_draftedGiven C_block C_left C_right C_pivot C_positive C_negative C_live C_needed R_kind R_place R_at R_token R_tokenPlace R_number R_state R_block R_positive R_negative R_left R_right R_pivot L_of F_cut F_labelledA F_labelledB F_row A_root A_words A_known G_size G_variable G_low G_high G_numberOf G_nodeOf G_sides G_waiting B_table B_nextTable) 0 0 := by
  refine x_entryi (own := R_G) (nm := "bitAt") (by decide) rfl rfl (Nat.le_of_ble_eq_true rfl) (fun p e s m below meth c A ls C0 hw hl => ?_)
  have hx := C0.1
  have hb := C0.2.1
  have hl : lv_has ls 4 [(0, .ref (ad 18)), (1, .int x1), (2, .int x2)] := hl
  unfold p_G_bitAt at h
  refine lv_iload_n hx hb d_G_bitAt_0 rfl (lv_at hl 1 rfl) ?_
  refine lv_iload_n hx hb d_G_bitAt_1 rfl (lv_at hl 2 rfl) ?_
  refine lv_bipush (v := 64) hx hb d_G_bitAt_2 (by decide) ?_
  refine lv_idiv hx hb d_G_bitAt_4 (by decide) ?_
  refine lv_iadd hx hb d_G_bitAt_5 ?_
  refine lv_istore_n (lv' := [(3, .int (x1 + (x2 / (64 : Int32)))), (0, .ref (ad 18)), (1, .int x1), (2, .int x2)]) hx hb d_G_bitAt_6 rfl hl (by decide) rfl (fun ls hl => ?_)
  refine lv_iload_n hx hb d_G_bitAt_7 rfl (lv_at hl 3 rfl) ?_
  refine lv_if_lt (tgt := 21) hx hb d_G_bitAt_8 (by decide) (fun c_1 => ?_) (fun c_1 => ?_)
  · have h := h.1 c_1
    refine lv_iconst (v := 0) hx hb d_G_bitAt_21 (by decide) ?_
    exact x_iret C0 hw () h rfl d_G_bitAt_22
  · have h := h.2 c_1
    refine lv_iload_n hx hb d_G_bitAt_11 rfl (lv_at hl 0 rfl) ?_
    refine lv_if_lt (tgt := 21) hx hb d_G_bitAt_12 (by decide) (fun c_2 => ?_) (fun c_2 => ?_)
    · have h := h.1 c_2
      refine lv_iconst (v := 0) hx hb d_G_bitAt_21 (by decide) ?_
      exact x_iret C0 hw () h rfl d_G_bitAt_22
    · have h := h.2 c_2
      refine lv_iload_n hx hb d_G_bitAt_15 rfl (lv_at hl 0 rfl) ?_
      refine lv_aload_n hx hb d_G_bitAt_16 rfl (lv_at hl 1 rfl) ?_
      refine x_alen C0 hw 18 1 rfl rfl (v := 3216) rfl d_G_bitAt_17 ?_
      refine lv_icmp_lt (tgt := 23) hx hb d_G_bitAt_18 (by decide) (fun c_3 => ?_) (fun c_3 => ?_)
      · have h := h.1 c_3
        refine lv_aload_n hx hb d_G_bitAt_23 rfl (lv_at hl 1 rfl) ?_
        refine lv_iload_n hx hb d_G_bitAt_24 rfl (lv_at hl 0 rfl) ?_
        obtain ⟨hi_4, h⟩ := h
        refine x_lald C0 hw 18 rfl hi_4 d_G_bitAt_25 ?_
        refine lv_iload_n hx hb d_G_bitAt_26 rfl (lv_at hl 3 rfl) ?_
        refine lv_bipush (v := 64) hx hb d_G_bitAt_27 (by decide) ?_
        refine lv_irem hx hb d_G_bitAt_29 (by decide) ?_
        refine lv_lushr (v := (J_lushr (A_words (x1 + (x2 / (64 : Int32))).toNatClampNeg) (x2 - x2 / (64 : Int32) * (64 : Int32)))) hx hb d_G_bitAt_30 rfl ?_
        refine lv_lconst (v := 1) hx hb d_G_bitAt_31 (by decide) ?_
        refine lv_land hx hb d_G_bitAt_32 ?_
        refine lv_l2i (v := (((J_lushr (A_words (x1 + (x2 / (64 : Int32))).toNatClampNeg) (x2 - x2 / (64 : Int32) * (64 : Int32))) &&& (1 : Int64)).toInt32)) hx hb d_G_bitAt_33 rfl ?_
        exact x_iret C0 hw () h rfl d_G_bitAt_34
      · have h := h.2 c_3
        refine lv_iconst (v := 0) hx hb d_G_bitAt_21 (by decide) ?_
        exact x_iret C0 hw () h rfl d_G_bitAt_22
theorem g_G_join : GY y_G_join b_G_join 6 (some .int) 4 := ⟨wm_626, wm_61, by decide +kernel, by decide +kernel, by decide +kernel⟩
def p_G_join_L11 (G_size : Int32) (G_variable : Nat → Int32) (G_low : Nat → Int32) (G_high : Nat → Int32) (G_numberOf : Nat → Int32) (x2 : Int32) (x3 : Int32) (k : Int32 → Int32 → (Nat → Int32) → (Nat → Int32) → (Nat → Int32) → (Nat → Int32) → Prop) (k51 : Prop) : Nat → Int32 → Prop
  | 0, _ => False
  | n + 1, x5 =>
    ((G_size ≤ x5 → k51) ∧ (¬ G_size ≤ x5 → (vp_in x5 269 ∧ ((¬ (G_low x5.toNatClampNeg) = x2 → (p_G_join_L11 G_size G_variable G_low G_high G_numberOf x2 x3 k k51 n (x5 + 1))) ∧ ((G_low x5.toNatClampNeg) = x2 → ((¬ (G_high x5.toNatClampNeg) = x3 → (p_G_join_L11 G_size G_variable G_low G_high G_numberOf x2 x3 k k51 n (x5 + 1))) ∧ ((G_high x5.toNatClampNeg) = x3 → (k x5 G_size G_variable G_low G_high G_numberOf))))))))
def p_G_join (G_size : Int32) (G_variable : Nat → Int32) (G_low : Nat → Int32) (G_high : Nat → Int32) (G_numberOf : Nat → Int32) (x1 : Int32) (x2 : Int32) (x3 : Int32) (x4 : Int32) (k : Int32 → Int32 → (Nat → Int32) → (Nat → Int32) → (Nat → Int32) → (Nat → Int32) → Prop) : Prop :=
  ((¬ x2 = x3 → (∃ j_8, p_G_join_L11 G_size G_variable G_low G_high G_numberOf x2 x3 k ((G_size < (269 : Int32) → (vp_in G_size 269 ∧ (k ((G_size + (1 : Int32)) - (1 : Int32)) (G_size + (1 : Int32)) (upd G_variable G_size.toNatClampNeg x1) (upd G_low G_size.toNatClampNeg x2) (upd G_high G_size.toNatClampNeg x3) (upd G_numberOf G_size.toNatClampNeg (-1 : Int32))))) ∧ (¬ G_size < (269 : Int32) → (k (-2 : Int32) G_size G_variable G_low G_high G_numberOf))) j_8 x4)) ∧ (x2 = x3 → (k x2 G_size G_variable G_low G_high G_numberOf)))
abbrev rm_G_join : Room := { frames := 0, cells := 0, slots := 0, locals := 0 }
set_option maxHeartbeats 4000000 in
set_option maxRecDepth 100000 in
theorem b_G_join_L11 {p : Program} {l : Launch} {e : Env} {s : State} {m : MethodId} {args : Array Value} {below : List Frame} {meth : Method} {c : Code} {D : va_G} {ca : Nat → ClassId} {tp : Nat} {A : Nat → Prop} {ad : Nat → Nat} {T_length : Int32} {T_bytes : Nat → Int32} {C_size : Int32} {C_given : Int32} {C_empty : Int32} {C_drafted : Int32} {C_draftedGiven : Int32} {C_block : Nat → Int32} {C_left : Nat → Int32} {C_right : Nat → Int32} {C_pivot : Nat → Int32} {C_positive : Nat → Int32} {C_negative : Nat → Int32} {C_live : Nat → Int32} {C_needed : Nat → Int32} {R_kind : Int32} {R_place : Int32} {R_at : Int32} {R_token : Int32} {R_tokenPlace : Int32} {R_number : Int32} {R_state : Int32} {R_block : Int32} {R_positive : Int32} {R_negative : Int32} {R_left : Int32} {R_right : Int32} {R_pivot : Int32} {L_of : Nat → Int32} {F_cut : Int32} {F_labelledA : Int32} {F_labelledB : Int32} {F_row : Nat → Int64} {A_root : Int32} {A_words : Nat → Int64} {A_known : Nat → Int32} {G_size : Int32} {G_variable : Nat → Int32} {G_low : Nat → Int32} {G_high : Nat → Int32} {G_numberOf : Nat → Int32} {G_nodeOf : Nat → Int32} {G_sides : Nat → Int32} {G_waiting : Nat → Int32} {B_table : Nat → Int64} {B_nextTable : Nat → Int64} {x1 : Int32} {x2 : Int32} {x3 : Int32} {k : Int32 → Int32 → (Nat → Int32) → (Nat → Int32) → (Nat → Int32) → (Nat → Int32) → Prop} {k51 : Prop} (C0 : CX p s m args meth c b_G_join 6 (some .int) R_G "join" D ca tp A) :
    ∀ (n : Nat) (x5 : Int32) {H : Heap} {locs : List Loc} {ls : Array Slot}, p_G_join_L11 G_size G_variable G_low G_high G_numberOf x2 x3 k k51 n x5 → WH D A s (WB ad ca T_length T_bytes C_size C_given C_empty C_drafted C_draftedGiven C_block C_left C_right C_pivot C_positive C_negative C_live C_needed R_kind R_place R_at R_token R_tokenPlace R_number R_state R_block R_positive R_negative R_left R_right R_pivot L_of F_cut F_labelledA F_labelledB F_row A_root A_words A_known G_size G_variable G_low G_high G_numberOf G_nodeOf G_sides G_waiting B_table B_nextTable) H locs → lv_has ls 6 [(0, .ref (ad 20)), (1, .int x1), (2, .int x2), (3, .int x3), (5, .int x5)] →
      (∀ (H : Heap) (locs : List Loc) (ls : Array Slot), k51 → WH D A s (WB ad ca T_length T_bytes C_size C_given C_empty C_drafted C_draftedGiven C_block C_left C_right C_pivot C_positive C_negative C_live C_needed R_kind R_place R_at R_token R_tokenPlace R_number R_state R_block R_positive R_negative R_left R_right R_pivot L_of F_cut F_labelledA F_labelledB F_row A_root A_words A_known G_size G_variable G_low G_high G_numberOf G_nodeOf G_sides G_waiting B_table B_nextTable) H locs → lv_has ls 6 [(0, .ref (ad 20)), (1, .int x1), (2, .int x2), (3, .int x3)] → W p l e rm_G_join s m args below meth c H locs 0 0 (QI D A below args s (fun r (u : Int32 × (Nat → Int32) × (Nat → Int32) × (Nat → Int32) × (Nat → Int32)) => k r u.1 u.2.1 u.2.2.1 u.2.2.2.1 u.2.2.2.2) (fun (u : Int32 × (Nat → Int32) × (Nat → Int32) × (Nat → Int32) × (Nat → Int32)) => WB ad ca T_length T_bytes C_size C_given C_empty C_drafted C_draftedGiven C_block C_left C_right C_pivot C_positive C_negative C_live C_needed R_kind R_place R_at R_token R_tokenPlace R_number R_state R_block R_positive R_negative R_left R_right R_pivot L_of F_cut F_labelledA F_labelledB F_row A_root A_words A_known u.1 u.2.1 u.2.2.1 u.2.2.2.1 u.2.2.2.2 G_nodeOf G_sides G_waiting B_table B_nextTable) 0 0) (F0 m 51 ls [])) →
      W p l e rm_G_join s m args below meth c H locs 0 0 (QI D A below args s (fun r (u : Int32 × (Nat → Int32) × (Nat → Int32) × (Nat → Int32) × (Nat → Int32)) => k r u.1 u.2.1 u.2.2.1 u.2.2.2.1 u.2.2.2.2) (fun (u : Int32 × (Nat → Int32) × (Nat → Int32) × (Nat → Int32) × (Nat → Int32)) => WB ad ca T_length T_bytes C_size C_given C_empty C_drafted C_draftedGiven C_block C_left C_right C_pivot C_positive C_negative C_live C_needed R_kind R_place R_at R_token R_tokenPlace R_number R_state R_block R_positive R_negative R_left R_right R_pivot L_of F_cut F_labelledA F_labelledB F_row A_root A_words A_known u.1 u.2.1 u.2.2.1 u.2.2.2.1 u.2.2.2.2 G_nodeOf G_sides G_waiting B_table B_nextTable) 0 0) (F0 m 11 ls []) := by
  have hx := C0.1
  have hb := C0.2.1
  intro n
  induction n with
  | zero =>
    intro x5 H locs ls h
    exact False.elim h
  | succ n ih =>
    intro x5 H locs ls h hw hl h51
    unfold p_G_join_L11 at h
    refine lv_iload hx hb d_G_join_11 (lv_at hl 4 rfl) ?_
    refine lv_aload_n hx hb d_G_join_13 rfl (lv_at hl 0 rfl) ?_
    refine x_get C0 hw 20 rfl rfl i_G 7 (by decide) wm_270 rfl rfl d_G_join_14 ?_
    refine lv_icmp_ge (tgt := 51) hx hb d_G_join_17 (by decide) (fun c_2 => ?_) (fun c_2 => ?_)
    · have h := h.1 c_2
      exact h51 _ _ _ h hw (lv_sub hl [0, 1, 2, 3] rfl)
    · have h := h.2 c_2
      refine lv_aload_n hx hb d_G_join_20 rfl (lv_at hl 0 rfl) ?_
      refine x_get C0 hw 20 rfl rfl i_G 1 (by decide) wm_264 rfl rfl d_G_join_21 ?_
      refine lv_iload hx hb d_G_join_24 (lv_at hl 4 rfl) ?_
      obtain ⟨hi_3, h⟩ := h
      refine x_iald C0 hw 22 rfl hi_3 d_G_join_26 ?_
      refine lv_iload_n hx hb d_G_join_27 rfl (lv_at hl 2 rfl) ?_
      refine lv_icmp_ne (tgt := 45) hx hb d_G_join_28 (by decide) (fun c_4 => ?_) (fun c_4 => ?_)
      · have h := h.1 c_4
        refine lv_iinc (v := (x5 + 1)) (lv' := [(5, .int (x5 + 1)), (0, .ref (ad 20)), (1, .int x1), (2, .int x2), (3, .int x3)]) hx hb d_G_join_45 hl (k := 4) rfl rfl (by decide) rfl (fun ls hl => ?_)
        refine lv_goto (tgt := 11) hx hb d_G_join_48 (by decide) ?_
        exact ih _ h hw (lv_sub hl [1, 2, 3, 4, 0] rfl) h51
      · have h := h.2 c_4
        refine lv_aload_n hx hb d_G_join_31 rfl (lv_at hl 0 rfl) ?_
        refine x_get C0 hw 20 rfl rfl i_G 2 (by decide) wm_265 rfl rfl d_G_join_32 ?_
        refine lv_iload hx hb d_G_join_35 (lv_at hl 4 rfl) ?_
        refine x_iald C0 hw 23 rfl hi_3 d_G_join_37 ?_
        refine lv_iload_n hx hb d_G_join_38 rfl (lv_at hl 3 rfl) ?_
        refine lv_icmp_ne (tgt := 45) hx hb d_G_join_39 (by decide) (fun c_5 => ?_) (fun c_5 => ?_)
        · have h := h.1 c_5
          refine lv_iinc (v := (x5 + 1)) (lv' := [(5, .int (x5 + 1)), (0, .ref (ad 20)), (1, .int x1), (2, .int x2), (3, .int x3)]) hx hb d_G_join_45 hl (k := 4) rfl rfl (by decide) rfl (fun ls hl => ?_)
          refine lv_goto (tgt := 11) hx hb d_G_join_48 (by decide) ?_
          exact ih _ h hw (lv_sub hl [1, 2, 3, 4, 0] rfl) h51
        · have h := h.2 c_5
          refine lv_iload hx hb d_G_join_42 (lv_at hl 4 rfl) ?_
          exact x_iret C0 hw (G_size, G_variable, G_low, G_high, G_numberOf) h rfl d_G_join_44
set_option maxHeartbeats 4000000 in
set_option maxRecDepth 100000 in
theorem c_G_join {l : Launch} {D : va_G} {ca : Nat → ClassId} {tp : Nat} {ad : Nat → Nat} {T_length : Int32} {T_bytes : Nat → Int32} {C_size : Int32} {C_given : Int32} {C_empty : Int32} {C_drafted : Int32} {C_draftedGiven : Int32} {C_block : Nat → Int32} {C_left : Nat → Int32} {C_right : Nat → Int32} {C_pivot : Nat → Int32} {C_positive : Nat → Int32} {C_negative : Nat → Int32} {C_live : Nat → Int32} {C_needed : Nat → Int32} {R_kind : Int32} {R_place : Int32} {R_at : Int32} {R_token : Int32} {R_tokenPlace : Int32} {R_number : Int32} {R_state : Int32} {R_block : Int32} {R_positive : Int32} {R_negative : Int32} {R_left : Int32} {R_right : Int32} {R_pivot : Int32} {L_of : Nat → Int32} {F_cut : Int32} {F_labelledA : Int32} {F_labelledB : Int32} {F_row : Nat → Int64} {A_root : Int32} {A_words : Nat → Int64} {A_known : Nat → Int32} {G_size : Int32} {G_variable : Nat → Int32} {G_low : Nat → Int32} {G_high : Nat → Int32} {G_numberOf : Nat → Int32} {G_nodeOf : Nat → Int32} {G_sides : Nat → Int32} {G_waiting : Nat → Int32} {B_table : Nat → Int64} {B_nextTable : Nat → Int64} {x1 : Int32} {x2 : Int32} {x3 : Int32} {x4 : Int32} {k : Int32 → Int32 → (Nat → Int32) → (Nat → Int32) → (Nat → Int32) → (Nat → Int32) → Prop} (h : p_G_join G_size G_variable G_low G_high G_numberOf x1 x2 x3 x4 k) :
    MTi l y_G_join b_G_join 6 (some .int) rm_G_join D ca tp [.ref (ad 20), .int x1, .int x2, .int x3, .int x4] (WB ad ca T_length T_bytes C_size C_given C_empty C_drafted C_draftedGiven C_block C_left C_right C_pivot C_positive C_negative C_live C_needed R_kind R_place R_at R_token R_tokenPlace R_number R_state R_block R_positive R_negative R_left R_right R_pivot L_of F_cut F_labelledA F_labelledB F_row A_root A_words A_known G_size G_variable G_low G_high G_numberOf G_nodeOf G_sides G_waiting B_table B_nextTable)
      (fun r (u : Int32 × (Nat → Int32) × (Nat → Int32) × (Nat → Int32) × (Nat → Int32)) => k r u.1 u.2.1 u.2.2.1 u.2.2.2.1 u.2.2.2.2)
      (fun (u : Int32 × (Nat → Int32) × (Nat → Int32) × (Nat → Int32) × (Nat → Int32)) => WB ad ca T_length T_bytes C_size C_given C_empty C_drafted C_draftedGiven C_block C_left C_right C_pivot C_positive C_negative C_live C_needed R_kind R_place R_at R_token R_tokenPlace R_number R_state R_block R_positive R_negative R_left R_right R_pivot L_of F_cut F_labelledA F_labelledB F_row A_root A_words A_known u.1 u.2.1 u.2.2.1 u.2.2.2.1 u.2.2.2.2 G_nodeOf G_sides G_waiting B_table B_nextTable) 0 0 := by
  refine x_entryi (own := R_G) (nm := "join") (by decide) rfl rfl (Nat.le_of_ble_eq_true rfl) (fun p e s m below meth c A ls C0 hw hl => ?_)
  have hx := C0.1
  have hb := C0.2.1
  have hl : lv_has ls 6 [(0, .ref (ad 20)), (1, .int x1), (2, .int x2), (3, .int x3), (4, .int x4)] := hl
  unfold p_G_join at h
  refine lv_iload_n hx hb d_G_join_0 rfl (lv_at hl 2 rfl) ?_
  refine lv_iload_n hx hb d_G_join_1 rfl (lv_at hl 3 rfl) ?_
  refine lv_icmp_ne (tgt := 7) hx hb d_G_join_2 (by decide) (fun c_1 => ?_) (fun c_1 => ?_)
  · have h := h.1 c_1
    refine lv_iload hx hb d_G_join_7 (lv_at hl 4 rfl) ?_
    refine lv_istore (lv' := [(5, .int x4), (0, .ref (ad 20)), (1, .int x1), (2, .int x2), (3, .int x3), (4, .int x4)]) hx hb d_G_join_9 hl (by decide) rfl (fun ls hl => ?_)
    obtain ⟨j_8, h⟩ := h
    refine b_G_join_L11 C0 _ _ h hw (lv_sub hl [1, 2, 3, 4, 0] rfl) (fun H locs ls h hw hl => ?_)
    refine lv_aload_n hx hb d_G_join_51 rfl (lv_at hl 0 rfl) ?_
    refine x_get C0 hw 20 rfl rfl i_G 7 (by decide) wm_270 rfl rfl d_G_join_52 ?_
    refine lv_sipush (v := 269) hx hb d_G_join_55 (by decide) ?_
    refine lv_icmp_lt (tgt := 64) hx hb d_G_join_58 (by decide) (fun c_6 => ?_) (fun c_6 => ?_)
    · have h := h.1 c_6
      refine lv_aload_n hx hb d_G_join_64 rfl (lv_at hl 0 rfl) ?_
      refine x_get C0 hw 20 rfl rfl i_G 0 (by decide) wm_263 rfl rfl d_G_join_65 ?_
      refine lv_aload_n hx hb d_G_join_68 rfl (lv_at hl 0 rfl) ?_
      refine x_get C0 hw 20 rfl rfl i_G 7 (by decide) wm_270 rfl rfl d_G_join_69 ?_
      refine lv_iload_n hx hb d_G_join_72 rfl (lv_at hl 1 rfl) ?_
      obtain ⟨hi_7, h⟩ := h
      refine x_iast C0 hw 21 rfl hi_7 (ws' := WB ad ca T_length T_bytes C_size C_given C_empty C_drafted C_draftedGiven C_block C_left C_right C_pivot C_positive C_negative C_live C_needed R_kind R_place R_at R_token R_tokenPlace R_number R_state R_block R_positive R_negative R_left R_right R_pivot L_of F_cut F_labelledA F_labelledB F_row A_root A_words A_known G_size (upd G_variable G_size.toNatClampNeg x1) G_low G_high G_numberOf G_nodeOf G_sides G_waiting B_table B_nextTable) rfl d_G_join_73 (fun H locs hw => ?_)
      refine lv_aload_n hx hb d_G_join_74 rfl (lv_at hl 0 rfl) ?_
      refine x_get C0 hw 20 rfl rfl i_G 1 (by decide) wm_264 rfl rfl d_G_join_75 ?_
      refine lv_aload_n hx hb d_G_join_78 rfl (lv_at hl 0 rfl) ?_
      refine x_get C0 hw 20 rfl rfl i_G 7 (by decide) wm_270 rfl rfl d_G_join_79 ?_
      refine lv_iload_n hx hb d_G_join_82 rfl (lv_at hl 2 rfl) ?_
      refine x_iast C0 hw 22 rfl hi_7 (ws' := WB ad ca T_length T_bytes C_size C_given C_empty C_drafted C_draftedGiven C_block C_left C_right C_pivot C_positive C_negative C_live C_needed R_kind R_place R_at R_token R_tokenPlace R_number R_state R_block R_positive R_negative R_left R_right R_pivot L_of F_cut F_labelledA F_labelledB F_row A_root A_words A_known G_size (upd G_variable G_size.toNatClampNeg x1) (upd G_low G_size.toNatClampNeg x2) G_high G_numberOf G_nodeOf G_sides G_waiting B_table B_nextTable) rfl d_G_join_83 (fun H locs hw => ?_)
      refine lv_aload_n hx hb d_G_join_84 rfl (lv_at hl 0 rfl) ?_
      refine x_get C0 hw 20 rfl rfl i_G 2 (by decide) wm_265 rfl rfl d_G_join_85 ?_
      refine lv_aload_n hx hb d_G_join_88 rfl (lv_at hl 0 rfl) ?_
      refine x_get C0 hw 20 rfl rfl i_G 7 (by decide) wm_270 rfl rfl d_G_join_89 ?_
      refine lv_iload_n hx hb d_G_join_92 rfl (lv_at hl 3 rfl) ?_
      refine x_iast C0 hw 23 rfl hi_7 (ws' := WB ad ca T_length T_bytes C_size C_given C_empty C_drafted C_draftedGiven C_block C_left C_right C_pivot C_positive C_negative C_live C_needed R_kind R_place R_at R_token R_tokenPlace R_number R_state R_block R_positive R_negative R_left R_right R_pivot L_of F_cut F_labelledA F_labelledB F_row A_root A_words A_known G_size (upd G_variable G_size.toNatClampNeg x1) (upd G_low G_size.toNatClampNeg x2) (upd G_high G_size.toNatClampNeg x3) G_numberOf G_nodeOf G_sides G_waiting B_table B_nextTable) rfl d_G_join_93 (fun H locs hw => ?_)
      refine lv_aload_n hx hb d_G_join_94 rfl (lv_at hl 0 rfl) ?_
      refine x_get C0 hw 20 rfl rfl i_G 3 (by decide) wm_266 rfl rfl d_G_join_95 ?_
      refine lv_aload_n hx hb d_G_join_98 rfl (lv_at hl 0 rfl) ?_
      refine x_get C0 hw 20 rfl rfl i_G 7 (by decide) wm_270 rfl rfl d_G_join_99 ?_
      refine lv_iconst (v := -1) hx hb d_G_join_102 (by decide) ?_
      refine x_iast C0 hw 24 rfl hi_7 (ws' := WB ad ca T_length T_bytes C_size C_given C_empty C_drafted C_draftedGiven C_block C_left C_right C_pivot C_positive C_negative C_live C_needed R_kind R_place R_at R_token R_tokenPlace R_number R_state R_block R_positive R_negative R_left R_right R_pivot L_of F_cut F_labelledA F_labelledB F_row A_root A_words A_known G_size (upd G_variable G_size.toNatClampNeg x1) (upd G_low G_size.toNatClampNeg x2) (upd G_high G_size.toNatClampNeg x3) (upd G_numberOf G_size.toNatClampNeg (-1 : Int32)) G_nodeOf G_sides G_waiting B_table B_nextTable) rfl d_G_join_103 (fun H locs hw => ?_)
      refine lv_aload_n hx hb d_G_join_104 rfl (lv_at hl 0 rfl) ?_
      refine lv_dup hx hb d_G_join_105 rfl ?_
      refine x_get C0 hw 20 rfl rfl i_G 7 (by decide) wm_270 rfl rfl d_G_join_106 ?_
      refine lv_iconst (v := 1) hx hb d_G_join_109 (by decide) ?_
      refine lv_iadd hx hb d_G_join_110 ?_
      refine x_put C0 hw 20 rfl rfl i_G tk_G n_G 7 (by decide) wm_270 rfl rfl rfl rfl (Nat.le_of_ble_eq_true rfl) (ws' := WB ad ca T_length T_bytes C_size C_given C_empty C_drafted C_draftedGiven C_block C_left C_right C_pivot C_positive C_negative C_live C_needed R_kind R_place R_at R_token R_tokenPlace R_number R_state R_block R_positive R_negative R_left R_right R_pivot L_of F_cut F_labelledA F_labelledB F_row A_root A_words A_known (G_size + (1 : Int32)) (upd G_variable G_size.toNatClampNeg x1) (upd G_low G_size.toNatClampNeg x2) (upd G_high G_size.toNatClampNeg x3) (upd G_numberOf G_size.toNatClampNeg (-1 : Int32)) G_nodeOf G_sides G_waiting B_table B_nextTable) rfl d_G_join_111 (fun H locs hw => ?_)
      refine lv_aload_n hx hb d_G_join_114 rfl (lv_at hl 0 rfl) ?_
      refine x_get C0 hw 20 rfl rfl i_G 7 (by decide) wm_270 rfl rfl d_G_join_115 ?_
      refine lv_iconst (v := 1) hx hb d_G_join_118 (by decide) ?_
      refine lv_isub hx hb d_G_join_119 ?_
      exact x_iret C0 hw ((G_size + (1 : Int32)), (upd G_variable G_size.toNatClampNeg x1), (upd G_low G_size.toNatClampNeg x2), (upd G_high G_size.toNatClampNeg x3), (upd G_numberOf G_size.toNatClampNeg (-1 : Int32))) h rfl d_G_join_120
    · have h := h.2 c_6
      refine lv_bipush (v := -2) hx hb d_G_join_61 (by decide) ?_
      exact x_iret C0 hw (G_size, G_variable, G_low, G_high, G_numberOf) h rfl d_G_join_63
  · have h := h.2 c_1
    refine lv_iload_n hx hb d_G_join_5 rfl (lv_at hl 2 rfl) ?_
    exact x_iret C0 hw (G_size, G_variable, G_low, G_high, G_numberOf) h rfl d_G_join_6
theorem g_G_numberFrom : GY y_G_numberFrom b_G_numberFrom 6 none 1 := ⟨wm_630, wm_61, by decide +kernel, by decide +kernel, by decide +kernel⟩
def p_G_numberFrom_L14 (G_low : Nat → Int32) (G_high : Nat → Int32) (k : (Nat → Int32) → (Nat → Int32) → (Nat → Int32) → Prop) : Nat → Int32 → Int32 → Int32 → (Nat → Int32) → (Nat → Int32) → (Nat → Int32) → Prop
  | 0, _, _, _, _, _, _ => False
  | n + 1, x2, x3, x4, G_numberOf, G_nodeOf, G_waiting =>
    (((538 : Int32) < x4 → (k G_numberOf G_nodeOf G_waiting)) ∧ (¬ (538 : Int32) < x4 → ((x3 ≤ 0 → (k G_numberOf G_nodeOf G_waiting)) ∧ (¬ x3 ≤ 0 → (vp_in (x3 + (-1)) 12 ∧ (((G_waiting (x3 + (-1)).toNatClampNeg) < 0 → (p_G_numberFrom_L14 G_low G_high k n x2 (x3 + (-1)) (x4 + 1) G_numberOf G_nodeOf G_waiting)) ∧ (¬ (G_waiting (x3 + (-1)).toNatClampNeg) < 0 → (vp_in (G_waiting (x3 + (-1)).toNatClampNeg) 269 ∧ ((¬ (G_numberOf (G_waiting (x3 + (-1)).toNatClampNeg).toNatClampNeg) = (-1 : Int32) → (p_G_numberFrom_L14 G_low G_high k n x2 (x3 + (-1)) (x4 + 1) G_numberOf G_nodeOf G_waiting)) ∧ ((G_numberOf (G_waiting (x3 + (-1)).toNatClampNeg).toNatClampNeg) = (-1 : Int32) → (((12 : Int32) ≤ ((x3 + (-1)) + (1 : Int32)) → (p_G_numberFrom_L14 G_low G_high k n x2 (x3 + (-1)) (x4 + 1) G_numberOf G_nodeOf G_waiting)) ∧ (¬ (12 : Int32) ≤ ((x3 + (-1)) + (1 : Int32)) → (vp_in x2 269 ∧ (∀ v_G_waiting_9 : Int32, v_G_waiting_9 = (G_high (G_waiting (x3 + (-1)).toNatClampNeg).toNatClampNeg) → (vp_in ((x3 + (-1)) + (1 : Int32)) 12 ∧ (∀ v_G_waiting_11 : Int32, v_G_waiting_11 = (G_low (G_waiting (x3 + (-1)).toNatClampNeg).toNatClampNeg) → (p_G_numberFrom_L14 G_low G_high k n (x2 + 1) ((x3 + (-1)) + 2) (x4 + 1) (upd G_numberOf (G_waiting (x3 + (-1)).toNatClampNeg).toNatClampNeg x2) (upd G_nodeOf x2.toNatClampNeg (G_waiting (x3 + (-1)).toNatClampNeg)) (upd (upd G_waiting (x3 + (-1)).toNatClampNeg v_G_waiting_9) ((x3 + (-1)) + (1 : Int32)).toNatClampNeg v_G_waiting_11))))))))))))))))))
def p_G_numberFrom (G_low : Nat → Int32) (G_high : Nat → Int32) (G_numberOf : Nat → Int32) (G_nodeOf : Nat → Int32) (G_waiting : Nat → Int32) (x1 : Int32) (k : (Nat → Int32) → (Nat → Int32) → (Nat → Int32) → Prop) : Prop :=
  (∃ j_12, p_G_numberFrom_L14 G_low G_high k j_12 (0 : Int32) (1 : Int32) (0 : Int32) G_numberOf G_nodeOf (upd G_waiting (0 : Int32).toNatClampNeg x1))
abbrev rm_G_numberFrom : Room := { frames := 0, cells := 0, slots := 0, locals := 0 }
set_option maxHeartbeats 4000000 in
set_option maxRecDepth 100000 in
theorem b_G_numberFrom_L14 {p : Program} {l : Launch} {e : Env} {s : State} {m : MethodId} {args : Array Value} {below : List Frame} {meth : Method} {c : Code} {D : va_G} {ca : Nat → ClassId} {tp : Nat} {A : Nat → Prop} {ad : Nat → Nat} {T_length : Int32} {T_bytes : Nat → Int32} {C_size : Int32} {C_given : Int32} {C_empty : Int32} {C_drafted : Int32} {C_draftedGiven : Int32} {C_block : Nat → Int32} {C_left : Nat → Int32} {C_right : Nat → Int32} {C_pivot : Nat → Int32} {C_positive : Nat → Int32} {C_negative : Nat → Int32} {C_live : Nat → Int32} {C_needed : Nat → Int32} {R_kind : Int32} {R_place : Int32} {R_at : Int32} {R_token : Int32} {R_tokenPlace : Int32} {R_number : Int32} {R_state : Int32} {R_block : Int32} {R_positive : Int32} {R_negative : Int32} {R_left : Int32} {R_right : Int32} {R_pivot : Int32} {L_of : Nat → Int32} {F_cut : Int32} {F_labelledA : Int32} {F_labelledB : Int32} {F_row : Nat → Int64} {A_root : Int32} {A_words : Nat → Int64} {A_known : Nat → Int32} {G_size : Int32} {G_variable : Nat → Int32} {G_low : Nat → Int32} {G_high : Nat → Int32} {G_sides : Nat → Int32} {B_table : Nat → Int64} {B_nextTable : Nat → Int64}  {k : (Nat → Int32) → (Nat → Int32) → (Nat → Int32) → Prop}  (C0 : CX p s m args meth c b_G_numberFrom 6 none R_G "numberFrom" D ca tp A) :
    ∀ (n : Nat) (x2 : Int32) (x3 : Int32) (x4 : Int32) (G_numberOf : Nat → Int32) (G_nodeOf : Nat → Int32) (G_waiting : Nat → Int32) {H : Heap} {locs : List Loc} {ls : Array Slot}, p_G_numberFrom_L14 G_low G_high k n x2 x3 x4 G_numberOf G_nodeOf G_waiting → WH D A s (WB ad ca T_length T_bytes C_size C_given C_empty C_drafted C_draftedGiven C_block C_left C_right C_pivot C_positive C_negative C_live C_needed R_kind R_place R_at R_token R_tokenPlace R_number R_state R_block R_positive R_negative R_left R_right R_pivot L_of F_cut F_labelledA F_labelledB F_row A_root A_words A_known G_size G_variable G_low G_high G_numberOf G_nodeOf G_sides G_waiting B_table B_nextTable) H locs → lv_has ls 6 [(0, .ref (ad 20)), (2, .int x2), (3, .int x3), (4, .int x4)] →
      W p l e rm_G_numberFrom s m args below meth c H locs 0 0 (QV D A below args s (fun (u : (Nat → Int32) × (Nat → Int32) × (Nat → Int32)) => k u.1 u.2.1 u.2.2) (fun (u : (Nat → Int32) × (Nat → Int32) × (Nat → Int32)) => WB ad ca T_length T_bytes C_size C_given C_empty C_drafted C_draftedGiven C_block C_left C_right C_pivot C_positive C_negative C_live C_needed R_kind R_place R_at R_token R_tokenPlace R_number R_state R_block R_positive R_negative R_left R_right R_pivot L_of F_cut F_labelledA F_labelledB F_row A_root A_words A_known G_size G_variable G_low G_high u.1 u.2.1 G_sides u.2.2 B_table B_nextTable) 0 0) (F0 m 14 ls []) := by
  have hx := C0.1
  have hb := C0.2.1
  intro n
  induction n with
  | zero =>
    intro x2 x3 x4 G_numberOf G_nodeOf G_waiting H locs ls h
    exact False.elim h
  | succ n ih =>
    intro x2 x3 x4 G_numberOf G_nodeOf G_waiting H locs ls h hw hl
    unfold p_G_numberFrom_L14 at h
    refine lv_iload hx hb d_G_numberFrom_14 (lv_at hl 3 rfl) ?_
    refine lv_sipush (v := 538) hx hb d_G_numberFrom_16 (by decide) ?_
    refine lv_icmp_gt (tgt := 117) hx hb d_G_numberFrom_19 (by decide) (fun c_1 => ?_) (fun c_1 => ?_)
    · have h := h.1 c_1
      exact x_vret C0 hw (G_numberOf, G_nodeOf, G_waiting) h rfl d_G_numberFrom_117
    · have h := h.2 c_1
      refine lv_iload_n hx hb d_G_numberFrom_22 rfl (lv_at hl 2 rfl) ?_
      refine lv_if_le (tgt := 117) hx hb d_G_numberFrom_23 (by decide) (fun c_2 => ?_) (fun c_2 => ?_)
      · have h := h.1 c_2
        exact x_vret C0 hw (G_numberOf, G_nodeOf, G_waiting) h rfl d_G_numberFrom_117
      · have h := h.2 c_2
        refine lv_iinc (v := (x3 + (-1))) (lv' := [(3, .int (x3 + (-1))), (0, .ref (ad 20)), (2, .int x2), (4, .int x4)]) hx hb d_G_numberFrom_26 hl (k := 2) rfl rfl (by decide) rfl (fun ls hl => ?_)
        refine lv_aload_n hx hb d_G_numberFrom_29 rfl (lv_at hl 1 rfl) ?_
        refine x_get C0 hw 20 rfl rfl i_G 6 (by decide) wm_269 rfl rfl d_G_numberFrom_30 ?_
        refine lv_iload_n hx hb d_G_numberFrom_33 rfl (lv_at hl 0 rfl) ?_
        obtain ⟨hi_3, h⟩ := h
        refine x_iald C0 hw 27 rfl hi_3 d_G_numberFrom_34 ?_
        refine lv_istore (lv' := [(5, .int (G_waiting (x3 + (-1)).toNatClampNeg)), (3, .int (x3 + (-1))), (0, .ref (ad 20)), (2, .int x2), (4, .int x4)]) hx hb d_G_numberFrom_35 hl (by decide) rfl (fun ls hl => ?_)
        refine lv_iload hx hb d_G_numberFrom_37 (lv_at hl 0 rfl) ?_
        refine lv_if_lt (tgt := 111) hx hb d_G_numberFrom_39 (by decide) (fun c_4 => ?_) (fun c_4 => ?_)
        · have h := h.1 c_4
          refine lv_iinc (v := (x4 + 1)) (lv' := [(4, .int (x4 + 1)), (5, .int (G_waiting (x3 + (-1)).toNatClampNeg)), (3, .int (x3 + (-1))), (0, .ref (ad 20)), (2, .int x2)]) hx hb d_G_numberFrom_111 hl (k := 4) rfl rfl (by decide) rfl (fun ls hl => ?_)
          refine lv_goto (tgt := 14) hx hb d_G_numberFrom_114 (by decide) ?_
          exact ih _ _ _ _ _ _ h hw (lv_sub hl [3, 4, 2, 0] rfl)
        · have h := h.2 c_4
          refine lv_aload_n hx hb d_G_numberFrom_42 rfl (lv_at hl 2 rfl) ?_
          refine x_get C0 hw 20 rfl rfl i_G 3 (by decide) wm_266 rfl rfl d_G_numberFrom_43 ?_
          refine lv_iload hx hb d_G_numberFrom_46 (lv_at hl 0 rfl) ?_
          obtain ⟨hi_5, h⟩ := h
          refine x_iald C0 hw 24 rfl hi_5 d_G_numberFrom_48 ?_
          refine lv_iconst (v := -1) hx hb d_G_numberFrom_49 (by decide) ?_
          refine lv_icmp_ne (tgt := 111) hx hb d_G_numberFrom_50 (by decide) (fun c_6 => ?_) (fun c_6 => ?_)
          · have h := h.1 c_6
            refine lv_iinc (v := (x4 + 1)) (lv' := [(4, .int (x4 + 1)), (5, .int (G_waiting (x3 + (-1)).toNatClampNeg)), (3, .int (x3 + (-1))), (0, .ref (ad 20)), (2, .int x2)]) hx hb d_G_numberFrom_111 hl (k := 4) rfl rfl (by decide) rfl (fun ls hl => ?_)
            refine lv_goto (tgt := 14) hx hb d_G_numberFrom_114 (by decide) ?_
            exact ih _ _ _ _ _ _ h hw (lv_sub hl [3, 4, 2, 0] rfl)
          · have h := h.2 c_6
            refine lv_iload_n hx hb d_G_numberFrom_53 rfl (lv_at hl 1 rfl) ?_
            refine lv_iconst (v := 1) hx hb d_G_numberFrom_54 (by decide) ?_
            refine lv_iadd hx hb d_G_numberFrom_55 ?_
            refine lv_bipush (v := 12) hx hb d_G_numberFrom_56 (by decide) ?_
            refine lv_icmp_ge (tgt := 111) hx hb d_G_numberFrom_58 (by decide) (fun c_7 => ?_) (fun c_7 => ?_)
            · have h := h.1 c_7
              refine lv_iinc (v := (x4 + 1)) (lv' := [(4, .int (x4 + 1)), (5, .int (G_waiting (x3 + (-1)).toNatClampNeg)), (3, .int (x3 + (-1))), (0, .ref (ad 20)), (2, .int x2)]) hx hb d_G_numberFrom_111 hl (k := 4) rfl rfl (by decide) rfl (fun ls hl => ?_)
              refine lv_goto (tgt := 14) hx hb d_G_numberFrom_114 (by decide) ?_
              exact ih _ _ _ _ _ _ h hw (lv_sub hl [3, 4, 2, 0] rfl)
            · have h := h.2 c_7
              refine lv_aload_n hx hb d_G_numberFrom_61 rfl (lv_at hl 2 rfl) ?_
              refine x_get C0 hw 20 rfl rfl i_G 3 (by decide) wm_266 rfl rfl d_G_numberFrom_62 ?_
              refine lv_iload hx hb d_G_numberFrom_65 (lv_at hl 0 rfl) ?_
              refine lv_iload_n hx hb d_G_numberFrom_67 rfl (lv_at hl 3 rfl) ?_
              refine x_iast C0 hw 24 rfl hi_5 (ws' := WB ad ca T_length T_bytes C_size C_given C_empty C_drafted C_draftedGiven C_block C_left C_right C_pivot C_positive C_negative C_live C_needed R_kind R_place R_at R_token R_tokenPlace R_number R_state R_block R_positive R_negative R_left R_right R_pivot L_of F_cut F_labelledA F_labelledB F_row A_root A_words A_known G_size G_variable G_low G_high (upd G_numberOf (G_waiting (x3 + (-1)).toNatClampNeg).toNatClampNeg x2) G_nodeOf G_sides G_waiting B_table B_nextTable) rfl d_G_numberFrom_68 (fun H locs hw => ?_)
              refine lv_aload_n hx hb d_G_numberFrom_69 rfl (lv_at hl 2 rfl) ?_
              refine x_get C0 hw 20 rfl rfl i_G 4 (by decide) wm_267 rfl rfl d_G_numberFrom_70 ?_
              refine lv_iload_n hx hb d_G_numberFrom_73 rfl (lv_at hl 3 rfl) ?_
              refine lv_iload hx hb d_G_numberFrom_74 (lv_at hl 0 rfl) ?_
              obtain ⟨hi_8, h⟩ := h
              refine x_iast C0 hw 25 rfl hi_8 (ws' := WB ad ca T_length T_bytes C_size C_given C_empty C_drafted C_draftedGiven C_block C_left C_right C_pivot C_positive C_negative C_live C_needed R_kind R_place R_at R_token R_tokenPlace R_number R_state R_block R_positive R_negative R_left R_right R_pivot L_of F_cut F_labelledA F_labelledB F_row A_root A_words A_known G_size G_variable G_low G_high (upd G_numberOf (G_waiting (x3 + (-1)).toNatClampNeg).toNatClampNeg x2) (upd G_nodeOf x2.toNatClampNeg (G_waiting (x3 + (-1)).toNatClampNeg)) G_sides G_waiting B_table B_nextTable) rfl d_G_numberFrom_76 (fun H locs hw => ?_)
              refine lv_iinc (v := (x2 + 1)) (lv' := [(2, .int (x2 + 1)), (5, .int (G_waiting (x3 + (-1)).toNatClampNeg)), (3, .int (x3 + (-1))), (0, .ref (ad 20)), (4, .int x4)]) hx hb d_G_numberFrom_77 hl (k := 3) rfl rfl (by decide) rfl (fun ls hl => ?_)
              refine lv_aload_n hx hb d_G_numberFrom_80 rfl (lv_at hl 3 rfl) ?_
              refine x_get C0 hw 20 rfl rfl i_G 6 (by decide) wm_269 rfl rfl d_G_numberFrom_81 ?_
              refine lv_iload_n hx hb d_G_numberFrom_84 rfl (lv_at hl 2 rfl) ?_
              refine lv_aload_n hx hb d_G_numberFrom_85 rfl (lv_at hl 3 rfl) ?_
              refine x_get C0 hw 20 rfl rfl i_G 2 (by decide) wm_265 rfl rfl d_G_numberFrom_86 ?_
              refine lv_iload hx hb d_G_numberFrom_89 (lv_at hl 1 rfl) ?_
              refine x_iald C0 hw 23 rfl hi_5 d_G_numberFrom_91 ?_
              refine lv_topi (fun v_G_waiting_9 e_v_G_waiting_9 => ?_)
              have h := h v_G_waiting_9 e_v_G_waiting_9
              refine x_iast C0 hw 27 rfl hi_3 (ws' := WB ad ca T_length T_bytes C_size C_given C_empty C_drafted C_draftedGiven C_block C_left C_right C_pivot C_positive C_negative C_live C_needed R_kind R_place R_at R_token R_tokenPlace R_number R_state R_block R_positive R_negative R_left R_right R_pivot L_of F_cut F_labelledA F_labelledB F_row A_root A_words A_known G_size G_variable G_low G_high (upd G_numberOf (G_waiting (x3 + (-1)).toNatClampNeg).toNatClampNeg x2) (upd G_nodeOf x2.toNatClampNeg (G_waiting (x3 + (-1)).toNatClampNeg)) G_sides (upd G_waiting (x3 + (-1)).toNatClampNeg v_G_waiting_9) B_table B_nextTable) rfl d_G_numberFrom_92 (fun H locs hw => ?_)
              refine lv_aload_n hx hb d_G_numberFrom_93 rfl (lv_at hl 3 rfl) ?_
              refine x_get C0 hw 20 rfl rfl i_G 6 (by decide) wm_269 rfl rfl d_G_numberFrom_94 ?_
              refine lv_iload_n hx hb d_G_numberFrom_97 rfl (lv_at hl 2 rfl) ?_
              refine lv_iconst (v := 1) hx hb d_G_numberFrom_98 (by decide) ?_
              refine lv_iadd hx hb d_G_numberFrom_99 ?_
              refine lv_aload_n hx hb d_G_numberFrom_100 rfl (lv_at hl 3 rfl) ?_
              refine x_get C0 hw 20 rfl rfl i_G 1 (by decide) wm_264 rfl rfl d_G_numberFrom_101 ?_
              refine lv_iload hx hb d_G_numberFrom_104 (lv_at hl 1 rfl) ?_
              refine x_iald C0 hw 22 rfl hi_5 d_G_numberFrom_106 ?_
              obtain ⟨hi_10, h⟩ := h
              refine lv_topi (fun v_G_waiting_11 e_v_G_waiting_11 => ?_)
              have h := h v_G_waiting_11 e_v_G_waiting_11
              refine x_iast C0 hw 27 rfl hi_10 (ws' := WB ad ca T_length T_bytes C_size C_given C_empty C_drafted C_draftedGiven C_block C_left C_right C_pivot C_positive C_negative C_live C_needed R_kind R_place R_at R_token R_tokenPlace R_number R_state R_block R_positive R_negative R_left R_right R_pivot L_of F_cut F_labelledA F_labelledB F_row A_root A_words A_known G_size G_variable G_low G_high (upd G_numberOf (G_waiting (x3 + (-1)).toNatClampNeg).toNatClampNeg x2) (upd G_nodeOf x2.toNatClampNeg (G_waiting (x3 + (-1)).toNatClampNeg)) G_sides (upd (upd G_waiting (x3 + (-1)).toNatClampNeg v_G_waiting_9) ((x3 + (-1)) + (1 : Int32)).toNatClampNeg v_G_waiting_11) B_table B_nextTable) rfl d_G_numberFrom_107 (fun H locs hw => ?_)
              refine lv_iinc (v := ((x3 + (-1)) + 2)) (lv' := [(3, .int ((x3 + (-1)) + 2)), (2, .int (x2 + 1)), (5, .int (G_waiting (x3 + (-1)).toNatClampNeg)), (0, .ref (ad 20)), (4, .int x4)]) hx hb d_G_numberFrom_108 hl (k := 2) rfl rfl (by decide) rfl (fun ls hl => ?_)
              refine lv_iinc (v := (x4 + 1)) (lv' := [(4, .int (x4 + 1)), (3, .int ((x3 + (-1)) + 2)), (2, .int (x2 + 1)), (5, .int (G_waiting (x3 + (-1)).toNatClampNeg)), (0, .ref (ad 20))]) hx hb d_G_numberFrom_111 hl (k := 4) rfl rfl (by decide) rfl (fun ls hl => ?_)
              refine lv_goto (tgt := 14) hx hb d_G_numberFrom_114 (by decide) ?_
              exact ih _ _ _ _ _ _ h hw (lv_sub hl [4, 2, 1, 0] rfl)
set_option maxHeartbeats 4000000 in
set_option maxRecDepth 100000 in
theorem c_G_numberFrom {l : Launch} {D : va_G} {ca : Nat → ClassId} {tp : Nat} {ad : Nat → Nat} {T_length : Int32} {T_bytes : Nat → Int32} {C_size : Int32} {C_given : Int32} {C_empty : Int32} {C_drafted : Int32} {C_draftedGiven : Int32} {C_block : Nat → Int32} {C_left : Nat → Int32} {C_right : Nat → Int32} {C_pivot : Nat → Int32} {C_positive : Nat → Int32} {C_negative : Nat → Int32} {C_live : Nat → Int32} {C_needed : Nat → Int32} {R_kind : Int32} {R_place : Int32} {R_at : Int32} {R_token : Int32} {R_tokenPlace : Int32} {R_number : Int32} {R_state : Int32} {R_block : Int32} {R_positive : Int32} {R_negative : Int32} {R_left : Int32} {R_right : Int32} {R_pivot : Int32} {L_of : Nat → Int32} {F_cut : Int32} {F_labelledA : Int32} {F_labelledB : Int32} {F_row : Nat → Int64} {A_root : Int32} {A_words : Nat → Int64} {A_known : Nat → Int32} {G_size : Int32} {G_variable : Nat → Int32} {G_low : Nat → Int32} {G_high : Nat → Int32} {G_numberOf : Nat → Int32} {G_nodeOf : Nat → Int32} {G_sides : Nat → Int32} {G_waiting : Nat → Int32} {B_table : Nat → Int64} {B_nextTable : Nat → Int64} {x1 : Int32} {k : (Nat → Int32) → (Nat → Int32) → (Nat → Int32) → Prop} (h : p_G_numberFrom G_low G_high G_numberOf G_nodeOf G_waiting x1 k) :
    MTv l y_G_numberFrom b_G_numberFrom 6 none rm_G_numberFrom D ca tp [.ref (ad 20), .int x1] (WB ad ca T_length T_bytes C_size C_given C_empty C_drafted C_draftedGiven C_block C_left C_right C_pivot C_positive C_negative C_live C_needed R_kind R_place R_at R_token R_tokenPlace R_number R_state R_block R_positive R_negative R_left R_right R_pivot L_of F_cut F_labelledA F_labelledB F_row A_root A_words A_known G_size G_variable G_low G_high G_numberOf G_nodeOf G_sides G_waiting B_table B_nextTable)
      (fun (u : (Nat → Int32) × (Nat → Int32) × (Nat → Int32)) => k u.1 u.2.1 u.2.2)
      (fun (u : (Nat → Int32) × (Nat → Int32) × (Nat → Int32)) => WB ad ca T_length T_bytes C_size C_given C_empty C_drafted C_draftedGiven C_block C_left C_right C_pivot C_positive C_negative C_live C_needed R_kind R_place R_at R_token R_tokenPlace R_number R_state R_block R_positive R_negative R_left R_right R_pivot L_of F_cut F_labelledA F_labelledB F_row A_root A_words A_known G_size G_variable G_low G_high u.1 u.2.1 G_sides u.2.2 B_table B_nextTable) 0 0 := by
  refine x_entryv (own := R_G) (nm := "numberFrom") (by decide) rfl rfl (Nat.le_of_ble_eq_true rfl) (fun p e s m below meth c A ls C0 hw hl => ?_)
  have hx := C0.1
  have hb := C0.2.1
  have hl : lv_has ls 6 [(0, .ref (ad 20)), (1, .int x1)] := hl
  unfold p_G_numberFrom at h
  refine lv_iconst (v := 0) hx hb d_G_numberFrom_0 (by decide) ?_
  refine lv_istore_n (lv' := [(2, .int (0 : Int32)), (0, .ref (ad 20)), (1, .int x1)]) hx hb d_G_numberFrom_1 rfl hl (by decide) rfl (fun ls hl => ?_)
  refine lv_iconst (v := 1) hx hb d_G_numberFrom_2 (by decide) ?_
  refine lv_istore_n (lv' := [(3, .int (1 : Int32)), (2, .int (0 : Int32)), (0, .ref (ad 20)), (1, .int x1)]) hx hb d_G_numberFrom_3 rfl hl (by decide) rfl (fun ls hl => ?_)
  refine lv_aload_n hx hb d_G_numberFrom_4 rfl (lv_at hl 2 rfl) ?_
  refine x_get C0 hw 20 rfl rfl i_G 6 (by decide) wm_269 rfl rfl d_G_numberFrom_5 ?_
  refine lv_iconst (v := 0) hx hb d_G_numberFrom_8 (by decide) ?_
  refine lv_iload_n hx hb d_G_numberFrom_9 rfl (lv_at hl 3 rfl) ?_
  refine x_iast C0 hw 27 rfl (show vp_in (0 : Int32) 12 by unfold vp_in; decide) (ws' := WB ad ca T_length T_bytes C_size C_given C_empty C_drafted C_draftedGiven C_block C_left C_right C_pivot C_positive C_negative C_live C_needed R_kind R_place R_at R_token R_tokenPlace R_number R_state R_block R_positive R_negative R_left R_right R_pivot L_of F_cut F_labelledA F_labelledB F_row A_root A_words A_known G_size G_variable G_low G_high G_numberOf G_nodeOf G_sides (upd G_waiting (0 : Int32).toNatClampNeg x1) B_table B_nextTable) rfl d_G_numberFrom_10 (fun H locs hw => ?_)
  refine lv_iconst (v := 0) hx hb d_G_numberFrom_11 (by decide) ?_
  refine lv_istore (lv' := [(4, .int (0 : Int32)), (3, .int (1 : Int32)), (2, .int (0 : Int32)), (0, .ref (ad 20)), (1, .int x1)]) hx hb d_G_numberFrom_12 hl (by decide) rfl (fun ls hl => ?_)
  obtain ⟨j_12, h⟩ := h
  refine b_G_numberFrom_L14 C0 _ _ _ _ _ _ _ h hw (lv_sub hl [3, 2, 1, 0] rfl)
theorem g_G_support : GY y_G_support b_G_support 3 (some .int) 0 := ⟨wm_661, wm_61, by decide +kernel, by decide +kernel, by decide +kernel⟩
def p_G_support_L4 (G_size : Int32) (G_variable : Nat → Int32) (k : Int32 → Prop) : Nat → Int32 → Int32 → Prop
  | 0, _, _ => False
  | n + 1, x1, x2 =>
    ((G_size ≤ x2 → (k x1)) ∧ (¬ G_size ≤ x2 → (vp_in x2 269 ∧ (p_B_bitOf (G_variable x2.toNatClampNeg) (fun (r_3 : Int32) => (p_G_support_L4 G_size G_variable k n (x1 ||| r_3) (x2 + 1)))))))
def p_G_support (G_size : Int32) (G_variable : Nat → Int32) (k : Int32 → Prop) : Prop :=
  (∃ j_4, p_G_support_L4 G_size G_variable k j_4 (0 : Int32) (0 : Int32))
abbrev rm_G_support : Room := { frames := 1, cells := 0, slots := 0, locals := 20 }
set_option maxHeartbeats 4000000 in
set_option maxRecDepth 100000 in
theorem b_G_support_L4 {p : Program} {l : Launch} {e : Env} {s : State} {m : MethodId} {args : Array Value} {below : List Frame} {meth : Method} {c : Code} {D : va_G} {ca : Nat → ClassId} {tp : Nat} {A : Nat → Prop} {ad : Nat → Nat} {T_length : Int32} {T_bytes : Nat → Int32} {C_size : Int32} {C_given : Int32} {C_empty : Int32} {C_drafted : Int32} {C_draftedGiven : Int32} {C_block : Nat → Int32} {C_left : Nat → Int32} {C_right : Nat → Int32} {C_pivot : Nat → Int32} {C_positive : Nat → Int32} {C_negative : Nat → Int32} {C_live : Nat → Int32} {C_needed : Nat → Int32} {R_kind : Int32} {R_place : Int32} {R_at : Int32} {R_token : Int32} {R_tokenPlace : Int32} {R_number : Int32} {R_state : Int32} {R_block : Int32} {R_positive : Int32} {R_negative : Int32} {R_left : Int32} {R_right : Int32} {R_pivot : Int32} {L_of : Nat → Int32} {F_cut : Int32} {F_labelledA : Int32} {F_labelledB : Int32} {F_row : Nat → Int64} {A_root : Int32} {A_words : Nat → Int64} {A_known : Nat → Int32} {G_size : Int32} {G_variable : Nat → Int32} {G_low : Nat → Int32} {G_high : Nat → Int32} {G_numberOf : Nat → Int32} {G_nodeOf : Nat → Int32} {G_sides : Nat → Int32} {G_waiting : Nat → Int32} {B_table : Nat → Int64} {B_nextTable : Nat → Int64}  {k : Int32 → Prop}  (C0 : CX p s m args meth c b_G_support 3 (some .int) R_G "support" D ca tp A) :
    ∀ (n : Nat) (x1 : Int32) (x2 : Int32) {H : Heap} {locs : List Loc} {ls : Array Slot}, p_G_support_L4 G_size G_variable k n x1 x2 → WH D A s (WB ad ca T_length T_bytes C_size C_given C_empty C_drafted C_draftedGiven C_block C_left C_right C_pivot C_positive C_negative C_live C_needed R_kind R_place R_at R_token R_tokenPlace R_number R_state R_block R_positive R_negative R_left R_right R_pivot L_of F_cut F_labelledA F_labelledB F_row A_root A_words A_known G_size G_variable G_low G_high G_numberOf G_nodeOf G_sides G_waiting B_table B_nextTable) H locs → lv_has ls 3 [(0, .ref (ad 20)), (1, .int x1), (2, .int x2)] →
      W p l e rm_G_support s m args below meth c H locs 0 0 (QI D A below args s (fun r (_ : Unit) => k r) (fun (_ : Unit) => WB ad ca T_length T_bytes C_size C_given C_empty C_drafted C_draftedGiven C_block C_left C_right C_pivot C_positive C_negative C_live C_needed R_kind R_place R_at R_token R_tokenPlace R_number R_state R_block R_positive R_negative R_left R_right R_pivot L_of F_cut F_labelledA F_labelledB F_row A_root A_words A_known G_size G_variable G_low G_high G_numberOf G_nodeOf G_sides G_waiting B_table B_nextTable) 0 0) (F0 m 4 ls []) := by
  have hx := C0.1
  have hb := C0.2.1
  intro n
  induction n with
  | zero =>
    intro x1 x2 H locs ls h
    exact False.elim h
  | succ n ih =>
    intro x1 x2 H locs ls h hw hl
    unfold p_G_support_L4 at h
    refine lv_iload_n hx hb d_G_support_4 rfl (lv_at hl 2 rfl) ?_
    refine lv_aload_n hx hb d_G_support_5 rfl (lv_at hl 0 rfl) ?_
    refine x_get C0 hw 20 rfl rfl i_G 7 (by decide) wm_270 rfl rfl d_G_support_6 ?_
    refine lv_icmp_ge (tgt := 30) hx hb d_G_support_9 (by decide) (fun c_1 => ?_) (fun c_1 => ?_)
    · have h := h.1 c_1
      refine lv_iload_n hx hb d_G_support_30 rfl (lv_at hl 1 rfl) ?_
      exact x_iret C0 hw () h rfl d_G_support_31
    · have h := h.2 c_1
      refine lv_iload_n hx hb d_G_support_12 rfl (lv_at hl 1 rfl) ?_
      refine lv_aload_n hx hb d_G_support_13 rfl (lv_at hl 0 rfl) ?_
      refine x_get C0 hw 20 rfl rfl i_G 0 (by decide) wm_263 rfl rfl d_G_support_14 ?_
      refine lv_iload_n hx hb d_G_support_17 rfl (lv_at hl 2 rfl) ?_
      obtain ⟨hi_2, h⟩ := h
      refine x_iald C0 hw 21 rfl hi_2 d_G_support_18 ?_
      refine x_callSNi C0 hw hl (c_B_bitOf h) g_B_bitOf wm_622 wm_456 (As := [.int (G_variable x2.toNatClampNeg)]) (rest := [.int x1]) rfl rfl (Nat.le_of_ble_eq_true rfl) ⟨rfl, rfl⟩ ⟨Nat.le_of_ble_eq_true rfl, Nat.le_of_ble_eq_true rfl⟩ ⟨Nat.le_of_ble_eq_true rfl, Nat.le_of_ble_eq_true rfl⟩ d_G_support_19 (fun r_3 u H locs h hw => ?_)
      refine lv_ior hx hb d_G_support_22 ?_
      refine lv_istore_n (lv' := [(1, .int (x1 ||| r_3)), (0, .ref (ad 20)), (2, .int x2)]) hx hb d_G_support_23 rfl hl (by decide) rfl (fun ls hl => ?_)
      refine lv_iinc (v := (x2 + 1)) (lv' := [(2, .int (x2 + 1)), (1, .int (x1 ||| r_3)), (0, .ref (ad 20))]) hx hb d_G_support_24 hl (k := 2) rfl rfl (by decide) rfl (fun ls hl => ?_)
      refine lv_goto (tgt := 4) hx hb d_G_support_27 (by decide) ?_
      exact ih _ _ h hw (lv_sub hl [2, 1, 0] rfl)
set_option maxHeartbeats 4000000 in
set_option maxRecDepth 100000 in
theorem c_G_support {l : Launch} {D : va_G} {ca : Nat → ClassId} {tp : Nat} {ad : Nat → Nat} {T_length : Int32} {T_bytes : Nat → Int32} {C_size : Int32} {C_given : Int32} {C_empty : Int32} {C_drafted : Int32} {C_draftedGiven : Int32} {C_block : Nat → Int32} {C_left : Nat → Int32} {C_right : Nat → Int32} {C_pivot : Nat → Int32} {C_positive : Nat → Int32} {C_negative : Nat → Int32} {C_live : Nat → Int32} {C_needed : Nat → Int32} {R_kind : Int32} {R_place : Int32} {R_at : Int32} {R_token : Int32} {R_tokenPlace : Int32} {R_number : Int32} {R_state : Int32} {R_block : Int32} {R_positive : Int32} {R_negative : Int32} {R_left : Int32} {R_right : Int32} {R_pivot : Int32} {L_of : Nat → Int32} {F_cut : Int32} {F_labelledA : Int32} {F_labelledB : Int32} {F_row : Nat → Int64} {A_root : Int32} {A_words : Nat → Int64} {A_known : Nat → Int32} {G_size : Int32} {G_variable : Nat → Int32} {G_low : Nat → Int32} {G_high : Nat → Int32} {G_numberOf : Nat → Int32} {G_nodeOf : Nat → Int32} {G_sides : Nat → Int32} {G_waiting : Nat → Int32} {B_table : Nat → Int64} {B_nextTable : Nat → Int64}  {k : Int32 → Prop} (h : p_G_support G_size G_variable k) :
    MTi l y_G_support b_G_support 3 (some .int) rm_G_support D ca tp [.ref (ad 20)] (WB ad ca T_length T_bytes C_size C_given C_empty C_drafted C_draftedGiven C_block C_left C_right C_pivot C_positive C_negative C_live C_needed R_kind R_place R_at R_token R_tokenPlace R_number R_state R_block R_positive R_negative R_left R_right R_pivot L_of F_cut F_labelledA F_labelledB F_row A_root A_words A_known G_size G_variable G_low G_high G_numberOf G_nodeOf G_sides G_waiting B_table B_nextTable)
      (fun r (_ : Unit) => k r)
      (fun (_ : Unit) => WB ad ca T_length T_bytes C_size C_given C_empty C_drafted C_draftedGiven C_block C_left C_right C_pivot C_positive C_negative C_live C_needed R_kind R_place R_at R_token R_tokenPlace R_number R_state R_block R_positive R_negative R_left R_right R_pivot L_of F_cut F_labelledA F_labelledB F_row A_root A_words A_known G_size G_variable G_low G_high G_numberOf G_nodeOf G_sides G_waiting B_table B_nextTable) 0 0 := by
  refine x_entryi (own := R_G) (nm := "support") (by decide) rfl rfl (Nat.le_of_ble_eq_true rfl) (fun p e s m below meth c A ls C0 hw hl => ?_)
  have hx := C0.1
  have hb := C0.2.1
  have hl : lv_has ls 3 [(0, .ref (ad 20))] := hl
  unfold p_G_support at h
  refine lv_iconst (v := 0) hx hb d_G_support_0 (by decide) ?_
  refine lv_istore_n (lv' := [(1, .int (0 : Int32)), (0, .ref (ad 20))]) hx hb d_G_support_1 rfl hl (by decide) rfl (fun ls hl => ?_)
  refine lv_iconst (v := 0) hx hb d_G_support_2 (by decide) ?_
  refine lv_istore_n (lv' := [(2, .int (0 : Int32)), (1, .int (0 : Int32)), (0, .ref (ad 20))]) hx hb d_G_support_3 rfl hl (by decide) rfl (fun ls hl => ?_)
  obtain ⟨j_4, h⟩ := h
  refine b_G_support_L4 C0 _ _ _ h hw (lv_sub hl [2, 1, 0] rfl)
theorem g_G_sideNumber : GY y_G_sideNumber b_G_sideNumber 2 (some .int) 1 := ⟨wm_673, wm_61, by decide +kernel, by decide +kernel, by decide +kernel⟩
def p_G_sideNumber (G_numberOf : Nat → Int32) (x1 : Int32) (k : Int32 → Prop) : Prop :=
  ((0 ≤ x1 → (vp_in x1 269 ∧ (k (G_numberOf x1.toNatClampNeg)))) ∧ (¬ 0 ≤ x1 → (k x1)))
abbrev rm_G_sideNumber : Room := { frames := 0, cells := 0, slots := 0, locals := 0 }
set_option maxHeartbeats 4000000 in
set_option maxRecDepth 100000 in
theorem c_G_sideNumber {l : Launch} {D : va_G} {ca : Nat → ClassId} {tp : Nat} {ad : Nat → Nat} {T_length : Int32} {T_bytes : Nat → Int32} {C_size : Int32} {C_given : Int32} {C_empty : Int32} {C_drafted : Int32} {C_draftedGiven : Int32} {C_block : Nat → Int32} {C_left : Nat → Int32} {C_right : Nat → Int32} {C_pivot : Nat → Int32} {C_positive : Nat → Int32} {C_negative : Nat → Int32} {C_live : Nat → Int32} {C_needed : Nat → Int32} {R_kind : Int32} {R_place : Int32} {R_at : Int32} {R_token : Int32} {R_tokenPlace : Int32} {R_number : Int32} {R_state : Int32} {R_block : Int32} {R_positive : Int32} {R_negative : Int32} {R_left : Int32} {R_right : Int32} {R_pivot : Int32} {L_of : Nat → Int32} {F_cut : Int32} {F_labelledA : Int32} {F_labelledB : Int32} {F_row : Nat → Int64} {A_root : Int32} {A_words : Nat → Int64} {A_known : Nat → Int32} {G_size : Int32} {G_variable : Nat → Int32} {G_low : Nat → Int32} {G_high : Nat → Int32} {G_numberOf : Nat → Int32} {G_nodeOf : Nat → Int32} {G_sides : Nat → Int32} {G_waiting : Nat → Int32} {B_table : Nat → Int64} {B_nextTable : Nat → Int64} {x1 : Int32} {k : Int32 → Prop} (h : p_G_sideNumber G_numberOf x1 k) :
    MTi l y_G_sideNumber b_G_sideNumber 2 (some .int) rm_G_sideNumber D ca tp [.ref (ad 20), .int x1] (WB ad ca T_length T_bytes C_size C_given C_empty C_drafted C_draftedGiven C_block C_left C_right C_pivot C_positive C_negative C_live C_needed R_kind R_place R_at R_token R_tokenPlace R_number R_state R_block R_positive R_negative R_left R_right R_pivot L_of F_cut F_labelledA F_labelledB F_row A_root A_words A_known G_size G_variable G_low G_high G_numberOf G_nodeOf G_sides G_waiting B_table B_nextTable)
      (fun r (_ : Unit) => k r)
      (fun (_ : Unit) => WB ad ca T_length T_bytes C_size C_given C_empty C_drafted C_draftedGiven C_block C_left C_right C_pivot C_positive C_negative C_live C_needed R_kind R_place R_at R_token R_tokenPlace R_number R_state R_block R_positive R_negative R_left R_right R_pivot L_of F_cut F_labelledA F_labelledB F_row A_root A_words A_known G_size G_variable G_low G_high G_numberOf G_nodeOf G_sides G_waiting B_table B_nextTable) 0 0 := by
  refine x_entryi (own := R_G) (nm := "sideNumber") (by decide) rfl rfl (Nat.le_of_ble_eq_true rfl) (fun p e s m below meth c A ls C0 hw hl => ?_)
  have hx := C0.1
  have hb := C0.2.1
  have hl : lv_has ls 2 [(0, .ref (ad 20)), (1, .int x1)] := hl
  unfold p_G_sideNumber at h
  refine lv_iload_n hx hb d_G_sideNumber_0 rfl (lv_at hl 1 rfl) ?_
  refine lv_if_ge (tgt := 8) hx hb d_G_sideNumber_1 (by decide) (fun c_1 => ?_) (fun c_1 => ?_)
  · have h := h.1 c_1
    refine lv_aload_n hx hb d_G_sideNumber_8 rfl (lv_at hl 0 rfl) ?_
    refine x_get C0 hw 20 rfl rfl i_G 3 (by decide) wm_266 rfl rfl d_G_sideNumber_9 ?_
    refine lv_iload_n hx hb d_G_sideNumber_12 rfl (lv_at hl 1 rfl) ?_
    obtain ⟨hi_2, h⟩ := h
    refine x_iald C0 hw 24 rfl hi_2 d_G_sideNumber_13 ?_
    exact x_iret C0 hw () h rfl d_G_sideNumber_14
  · have h := h.2 c_1
    refine lv_iload_n hx hb d_G_sideNumber_4 rfl (lv_at hl 1 rfl) ?_
    refine lv_goto (tgt := 14) hx hb d_G_sideNumber_5 (by decide) ?_
    exact x_iret C0 hw () h rfl d_G_sideNumber_14
theorem g_G_tell : GY y_G_tell b_G_tell 4 (some .int) 2 := ⟨wm_669, wm_61, by decide +kernel, by decide +kernel, by decide +kernel⟩
def p_G_tell (G_size : Int32) (G_variable : Nat → Int32) (G_low : Nat → Int32) (G_high : Nat → Int32) (G_numberOf : Nat → Int32) (G_nodeOf : Nat → Int32) (x1 : Int32) (x2 : Int32) (k : Int32 → Prop) : Prop :=
  ((x1 < 0 → (k (-1 : Int32))) ∧ (¬ x1 < 0 → ((x1 < G_size → (vp_in x1 269 ∧ ((x2 = (0 : Int32) → (vp_in (G_nodeOf x1.toNatClampNeg) 269 ∧ (k (G_variable (G_nodeOf x1.toNatClampNeg).toNatClampNeg)))) ∧ (x2 = (1 : Int32) → (vp_in (G_nodeOf x1.toNatClampNeg) 269 ∧ (p_G_sideNumber G_numberOf (G_low (G_nodeOf x1.toNatClampNeg).toNatClampNeg) (fun (r_8 : Int32) => (k r_8))))) ∧ (x2 = (2 : Int32) → (vp_in (G_nodeOf x1.toNatClampNeg) 269 ∧ (p_G_sideNumber G_numberOf (G_high (G_nodeOf x1.toNatClampNeg).toNatClampNeg) (fun (r_11 : Int32) => (k r_11))))) ∧ (¬ x2 = (0 : Int32) → ¬ x2 = (1 : Int32) → ¬ x2 = (2 : Int32) → (k (-1 : Int32)))))) ∧ (¬ x1 < G_size → (k (-1 : Int32))))))
abbrev rm_G_tell : Room := { frames := 1, cells := 0, slots := 0, locals := 21 }
set_option maxHeartbeats 4000000 in
set_option maxRecDepth 100000 in
theorem c_G_tell {l : Launch} {D : va_G} {ca : Nat → ClassId} {tp : Nat} {ad : Nat → Nat} {T_length : Int32} {T_bytes : Nat → Int32} {C_size : Int32} {C_given : Int32} {C_empty : Int32} {C_drafted : Int32} {C_draftedGiven : Int32} {C_block : Nat → Int32} {C_left : Nat → Int32} {C_right : Nat → Int32} {C_pivot : Nat → Int32} {C_positive : Nat → Int32} {C_negative : Nat → Int32} {C_live : Nat → Int32} {C_needed : Nat → Int32} {R_kind : Int32} {R_place : Int32} {R_at : Int32} {R_token : Int32} {R_tokenPlace : Int32} {R_number : Int32} {R_state : Int32} {R_block : Int32} {R_positive : Int32} {R_negative : Int32} {R_left : Int32} {R_right : Int32} {R_pivot : Int32} {L_of : Nat → Int32} {F_cut : Int32} {F_labelledA : Int32} {F_labelledB : Int32} {F_row : Nat → Int64} {A_root : Int32} {A_words : Nat → Int64} {A_known : Nat → Int32} {G_size : Int32} {G_variable : Nat → Int32} {G_low : Nat → Int32} {G_high : Nat → Int32} {G_numberOf : Nat → Int32} {G_nodeOf : Nat → Int32} {G_sides : Nat → Int32} {G_waiting : Nat → Int32} {B_table : Nat → Int64} {B_nextTable : Nat → Int64} {x1 : Int32} {x2 : Int32} {k : Int32 → Prop} (h : p_G_tell G_size G_variable G_low G_high G_numberOf G_nodeOf x1 x2 k) :
    MTi l y_G_tell b_G_tell 4 (some .int) rm_G_tell D ca tp [.ref (ad 20), .int x1, .int x2] (WB ad ca T_length T_bytes C_size C_given C_empty C_drafted C_draftedGiven C_block C_left C_right C_pivot C_positive C_negative C_live C_needed R_kind R_place R_at R_token R_tokenPlace R_number R_state R_block R_positive R_negative R_left R_right R_pivot L_of F_cut F_labelledA F_labelledB F_row A_root A_words A_known G_size G_variable G_low G_high G_numberOf G_nodeOf G_sides G_waiting B_table B_nextTable)
      (fun r (_ : Unit) => k r)
      (fun (_ : Unit) => WB ad ca T_length T_bytes C_size C_given C_empty C_drafted C_draftedGiven C_block C_left C_right C_pivot C_positive C_negative C_live C_needed R_kind R_place R_at R_token R_tokenPlace R_number R_state R_block R_positive R_negative R_left R_right R_pivot L_of F_cut F_labelledA F_labelledB F_row A_root A_words A_known G_size G_variable G_low G_high G_numberOf G_nodeOf G_sides G_waiting B_table B_nextTable) 0 0 := by
  refine x_entryi (own := R_G) (nm := "tell") (by decide) rfl rfl (Nat.le_of_ble_eq_true rfl) (fun p e s m below meth c A ls C0 hw hl => ?_)
  have hx := C0.1
  have hb := C0.2.1
  have hl : lv_has ls 4 [(0, .ref (ad 20)), (1, .int x1), (2, .int x2)] := hl
  unfold p_G_tell at h
  refine lv_iload_n hx hb d_G_tell_0 rfl (lv_at hl 1 rfl) ?_
  refine lv_if_lt (tgt := 12) hx hb d_G_tell_1 (by decide) (fun c_1 => ?_) (fun c_1 => ?_)
  · have h := h.1 c_1
    refine lv_iconst (v := -1) hx hb d_G_tell_12 (by decide) ?_
    exact x_iret C0 hw () h rfl d_G_tell_13
  · have h := h.2 c_1
    refine lv_iload_n hx hb d_G_tell_4 rfl (lv_at hl 1 rfl) ?_
    refine lv_aload_n hx hb d_G_tell_5 rfl (lv_at hl 0 rfl) ?_
    refine x_get C0 hw 20 rfl rfl i_G 7 (by decide) wm_270 rfl rfl d_G_tell_6 ?_
    refine lv_icmp_lt (tgt := 14) hx hb d_G_tell_9 (by decide) (fun c_2 => ?_) (fun c_2 => ?_)
    · have h := h.1 c_2
      refine lv_aload_n hx hb d_G_tell_14 rfl (lv_at hl 0 rfl) ?_
      refine x_get C0 hw 20 rfl rfl i_G 4 (by decide) wm_267 rfl rfl d_G_tell_15 ?_
      refine lv_iload_n hx hb d_G_tell_18 rfl (lv_at hl 1 rfl) ?_
      obtain ⟨hi_3, h⟩ := h
      refine x_iald C0 hw 25 rfl hi_3 d_G_tell_19 ?_
      refine lv_istore_n (lv' := [(3, .int (G_nodeOf x1.toNatClampNeg)), (0, .ref (ad 20)), (1, .int x1), (2, .int x2)]) hx hb d_G_tell_20 rfl hl (by decide) rfl (fun ls hl => ?_)
      refine lv_iload_n hx hb d_G_tell_21 rfl (lv_at hl 3 rfl) ?_
      by_cases c_4 : x2 = (0 : Int32)
      · have h := h.1 c_4
        refine lv_tableIn (tgt := 48) (off := 26) hx hb d_G_tell_22 (by rw [c_4]; decide) (by rw [c_4]; decide) (by rw [c_4]; rfl) (by decide) ?_
        refine lv_aload_n hx hb d_G_tell_48 rfl (lv_at hl 1 rfl) ?_
        refine x_get C0 hw 20 rfl rfl i_G 0 (by decide) wm_263 rfl rfl d_G_tell_49 ?_
        refine lv_iload_n hx hb d_G_tell_52 rfl (lv_at hl 0 rfl) ?_
        obtain ⟨hi_5, h⟩ := h
        refine x_iald C0 hw 21 rfl hi_5 d_G_tell_53 ?_
        exact x_iret C0 hw () h rfl d_G_tell_54
      by_cases c_6 : x2 = (1 : Int32)
      · have h := h.2.1 c_6
        refine lv_tableIn (tgt := 55) (off := 33) hx hb d_G_tell_22 (by rw [c_6]; decide) (by rw [c_6]; decide) (by rw [c_6]; rfl) (by decide) ?_
        refine lv_aload_n hx hb d_G_tell_55 rfl (lv_at hl 1 rfl) ?_
        refine lv_aload_n hx hb d_G_tell_56 rfl (lv_at hl 1 rfl) ?_
        refine x_get C0 hw 20 rfl rfl i_G 1 (by decide) wm_264 rfl rfl d_G_tell_57 ?_
        refine lv_iload_n hx hb d_G_tell_60 rfl (lv_at hl 0 rfl) ?_
        obtain ⟨hi_7, h⟩ := h
        refine x_iald C0 hw 22 rfl hi_7 d_G_tell_61 ?_
        refine x_callVi C0 hw hl (c_G_sideNumber h) g_G_sideNumber wm_670 ⟨wm_30, wm_672⟩ 20 rfl rfl rfl (As := [.int (G_low (G_nodeOf x1.toNatClampNeg).toNatClampNeg)]) (rest := []) rfl rfl (Nat.le_of_ble_eq_true rfl) ⟨rfl, rfl⟩ ⟨Nat.le_of_ble_eq_true rfl, Nat.le_of_ble_eq_true rfl⟩ ⟨Nat.le_of_ble_eq_true rfl, Nat.le_of_ble_eq_true rfl⟩ d_G_tell_62 (fun r_8 u H locs h hw => ?_)
        exact x_iret C0 hw () h rfl d_G_tell_65
      by_cases c_9 : x2 = (2 : Int32)
      · have h := h.2.2.1 c_9
        refine lv_tableIn (tgt := 66) (off := 44) hx hb d_G_tell_22 (by rw [c_9]; decide) (by rw [c_9]; decide) (by rw [c_9]; rfl) (by decide) ?_
        refine lv_aload_n hx hb d_G_tell_66 rfl (lv_at hl 1 rfl) ?_
        refine lv_aload_n hx hb d_G_tell_67 rfl (lv_at hl 1 rfl) ?_
        refine x_get C0 hw 20 rfl rfl i_G 2 (by decide) wm_265 rfl rfl d_G_tell_68 ?_
        refine lv_iload_n hx hb d_G_tell_71 rfl (lv_at hl 0 rfl) ?_
        obtain ⟨hi_10, h⟩ := h
        refine x_iald C0 hw 23 rfl hi_10 d_G_tell_72 ?_
        refine x_callVi C0 hw hl (c_G_sideNumber h) g_G_sideNumber wm_670 ⟨wm_30, wm_672⟩ 20 rfl rfl rfl (As := [.int (G_high (G_nodeOf x1.toNatClampNeg).toNatClampNeg)]) (rest := []) rfl rfl (Nat.le_of_ble_eq_true rfl) ⟨rfl, rfl⟩ ⟨Nat.le_of_ble_eq_true rfl, Nat.le_of_ble_eq_true rfl⟩ ⟨Nat.le_of_ble_eq_true rfl, Nat.le_of_ble_eq_true rfl⟩ d_G_tell_73 (fun r_11 u H locs h hw => ?_)
        exact x_iret C0 hw () h rfl d_G_tell_76
      have h := h.2.2.2 c_4 c_6 c_9
      refine lv_tableOut (tgt := 77) hx hb d_G_tell_22 (by have q0 := lv_neT c_4 (a := 0) rfl; have q1 := lv_neT c_6 (a := 1) rfl; have q2 := lv_neT c_9 (a := 2) rfl; omega) (by decide) ?_
      refine lv_iconst (v := -1) hx hb d_G_tell_77 (by decide) ?_
      exact x_iret C0 hw () h rfl d_G_tell_78
    · have h := h.2 c_2
      refine lv_iconst (v := -1) hx hb d_G_tell_12 (by decide) ?_
      exact x_iret C0 hw () h rfl d_G_tell_13
theorem g_G_build : GY y_G_build b_G_build 6 none 2 := ⟨wm_618, wm_61, by decide +kernel, by decide +kernel, by decide +kernel⟩
def p_G_build_L7 (A_words : Nat → Int64) (x2 : Int32) (k43 : (Nat → Int32) → Prop) : Nat → Int32 → (Nat → Int32) → Prop
  | 0, _, _ => False
  | n + 1, x3, G_sides =>
    (((1024 : Int32) ≤ x3 → (k43 G_sides)) ∧ (¬ (1024 : Int32) ≤ x3 → (p_G_bitAt A_words x2 x3 (fun (r_2 : Int32) => ((¬ r_2 = (1 : Int32) → (vp_in x3 1024 ∧ (p_G_build_L7 A_words x2 k43 n (x3 + 1) (upd G_sides x3.toNatClampNeg (-2 : Int32))))) ∧ (r_2 = (1 : Int32) → (vp_in x3 1024 ∧ (p_G_build_L7 A_words x2 k43 n (x3 + 1) (upd G_sides x3.toNatClampNeg (-3 : Int32))))))))))
def p_G_build_L60 (x3 : Int32) (x4 : Int32) (k108 : Int32 → (Nat → Int32) → (Nat → Int32) → (Nat → Int32) → (Nat → Int32) → (Nat → Int32) → Prop) : Nat → Int32 → Int32 → (Nat → Int32) → (Nat → Int32) → (Nat → Int32) → (Nat → Int32) → (Nat → Int32) → Prop
  | 0, _, _, _, _, _, _, _ => False
  | n + 1, x5, G_size, G_variable, G_low, G_high, G_numberOf, G_sides =>
    (p_B_bitOf x3 (fun (r_12 : Int32) => ((r_12 ≤ x5 → (k108 G_size G_variable G_low G_high G_numberOf G_sides)) ∧ (¬ r_12 ≤ x5 → (vp_in x5 1024 ∧ (p_B_bitOf x3 (fun (r_15 : Int32) => (vp_in (x5 + r_15) 1024 ∧ (p_G_join G_size G_variable G_low G_high G_numberOf x3 (G_sides x5.toNatClampNeg) (G_sides (x5 + r_15).toNatClampNeg) x4 (fun (r_22 : Int32) (G_size_17 : Int32) (G_variable_18 : Nat → Int32) (G_low_19 : Nat → Int32) (G_high_20 : Nat → Int32) (G_numberOf_21 : Nat → Int32) => (p_G_build_L60 x3 x4 k108 n (x5 + 1) G_size_17 G_variable_18 G_low_19 G_high_20 G_numberOf_21 (upd G_sides x5.toNatClampNeg r_22))))))))))))
def p_G_build_L46 (G_nodeOf : Nat → Int32) (G_waiting : Nat → Int32) (k : Int32 → (Nat → Int32) → (Nat → Int32) → (Nat → Int32) → (Nat → Int32) → (Nat → Int32) → (Nat → Int32) → (Nat → Int32) → Prop) : Nat → Int32 → Int32 → (Nat → Int32) → (Nat → Int32) → (Nat → Int32) → (Nat → Int32) → (Nat → Int32) → Prop
  | 0, _, _, _, _, _, _, _ => False
  | n + 1, x3, G_size, G_variable, G_low, G_high, G_numberOf, G_sides =>
    ((x3 < (1 : Int32) → (p_G_numberFrom G_low G_high G_numberOf G_nodeOf G_waiting (G_sides (0 : Int32).toNatClampNeg) (fun (G_numberOf_8 : Nat → Int32) (G_nodeOf_9 : Nat → Int32) (G_waiting_10 : Nat → Int32) => (k G_size G_variable G_low G_high G_numberOf_8 G_nodeOf_9 G_sides G_waiting_10)))) ∧ (¬ x3 < (1 : Int32) → (∃ j_29, p_G_build_L60 x3 G_size (fun (G_size_23 : Int32) (G_variable_24 : Nat → Int32) (G_low_25 : Nat → Int32) (G_high_26 : Nat → Int32) (G_numberOf_27 : Nat → Int32) (G_sides_28 : Nat → Int32) => (p_G_build_L46 G_nodeOf G_waiting k n (x3 + (-1)) G_size_23 G_variable_24 G_low_25 G_high_26 G_numberOf_27 G_sides_28)) j_29 (0 : Int32) G_size G_variable G_low G_high G_numberOf G_sides)))
def p_G_build (A_words : Nat → Int64) (G_variable : Nat → Int32) (G_low : Nat → Int32) (G_high : Nat → Int32) (G_numberOf : Nat → Int32) (G_nodeOf : Nat → Int32) (G_sides : Nat → Int32) (G_waiting : Nat → Int32) (x2 : Int32) (k : Int32 → (Nat → Int32) → (Nat → Int32) → (Nat → Int32) → (Nat → Int32) → (Nat → Int32) → (Nat → Int32) → (Nat → Int32) → Prop) : Prop :=
  (∃ j_31, p_G_build_L7 A_words x2 (fun (G_sides_6 : Nat → Int32) => (∃ j_30, p_G_build_L46 G_nodeOf G_waiting k j_30 (10 : Int32) (0 : Int32) G_variable G_low G_high G_numberOf G_sides_6)) j_31 (0 : Int32) G_sides)
abbrev rm_G_build : Room := { frames := 1, cells := 0, slots := 0, locals := 25 }
set_option maxHeartbeats 4000000 in
set_option maxRecDepth 100000 in
theorem b_G_build_L7 {p : Program} {l : Launch} {e : Env} {s : State} {m : MethodId} {args : Array Value} {below : List Frame} {meth : Method} {c : Code} {D : va_G} {ca : Nat → ClassId} {tp : Nat} {A : Nat → Prop} {ad : Nat → Nat} {T_length : Int32} {T_bytes : Nat → Int32} {C_size : Int32} {C_given : Int32} {C_empty : Int32} {C_drafted : Int32} {C_draftedGiven : Int32} {C_block : Nat → Int32} {C_left : Nat → Int32} {C_right : Nat → Int32} {C_pivot : Nat → Int32} {C_positive : Nat → Int32} {C_negative : Nat → Int32} {C_live : Nat → Int32} {C_needed : Nat → Int32} {R_kind : Int32} {R_place : Int32} {R_at : Int32} {R_token : Int32} {R_tokenPlace : Int32} {R_number : Int32} {R_state : Int32} {R_block : Int32} {R_positive : Int32} {R_negative : Int32} {R_left : Int32} {R_right : Int32} {R_pivot : Int32} {L_of : Nat → Int32} {F_cut : Int32} {F_labelledA : Int32} {F_labelledB : Int32} {F_row : Nat → Int64} {A_root : Int32} {A_words : Nat → Int64} {A_known : Nat → Int32} {G_size : Int32} {G_variable : Nat → Int32} {G_low : Nat → Int32} {G_high : Nat → Int32} {G_numberOf : Nat → Int32} {G_nodeOf : Nat → Int32} {G_waiting : Nat → Int32} {B_table : Nat → Int64} {B_nextTable : Nat → Int64} {x2 : Int32} {k : Int32 → (Nat → Int32) → (Nat → Int32) → (Nat → Int32) → (Nat → Int32) → (Nat → Int32) → (Nat → Int32) → (Nat → Int32) → Prop} {k43 : (Nat → Int32) → Prop} (C0 : CX p s m args meth c b_G_build 6 none R_G "build" D ca tp A) :
    ∀ (n : Nat) (x3 : Int32) (G_sides : Nat → Int32) {H : Heap} {locs : List Loc} {ls : Array Slot}, p_G_build_L7 A_words x2 k43 n x3 G_sides → WH D A s (WB ad ca T_length T_bytes C_size C_given C_empty C_drafted C_draftedGiven C_block C_left C_right C_pivot C_positive C_negative C_live C_needed R_kind R_place R_at R_token R_tokenPlace R_number R_state R_block R_positive R_negative R_left R_right R_pivot L_of F_cut F_labelledA F_labelledB F_row A_root A_words A_known G_size G_variable G_low G_high G_numberOf G_nodeOf G_sides G_waiting B_table B_nextTable) H locs → lv_has ls 6 [(0, .ref (ad 20)), (1, .ref (ad 18)), (2, .int x2), (3, .int x3)] →
      (∀ (G_sides : Nat → Int32) (H : Heap) (locs : List Loc) (ls : Array Slot), k43 G_sides → WH D A s (WB ad ca T_length T_bytes C_size C_given C_empty C_drafted C_draftedGiven C_block C_left C_right C_pivot C_positive C_negative C_live C_needed R_kind R_place R_at R_token R_tokenPlace R_number R_state R_block R_positive R_negative R_left R_right R_pivot L_of F_cut F_labelledA F_labelledB F_row A_root A_words A_known G_size G_variable G_low G_high G_numberOf G_nodeOf G_sides G_waiting B_table B_nextTable) H locs → lv_has ls 6 [(0, .ref (ad 20))] → W p l e rm_G_build s m args below meth c H locs 0 0 (QV D A below args s (fun (u : Int32 × (Nat → Int32) × (Nat → Int32) × (Nat → Int32) × (Nat → Int32) × (Nat → Int32) × (Nat → Int32) × (Nat → Int32)) => k u.1 u.2.1 u.2.2.1 u.2.2.2.1 u.2.2.2.2.1 u.2.2.2.2.2.1 u.2.2.2.2.2.2.1 u.2.2.2.2.2.2.2) (fun (u : Int32 × (Nat → Int32) × (Nat → Int32) × (Nat → Int32) × (Nat → Int32) × (Nat → Int32) × (Nat → Int32) × (Nat → Int32)) => WB ad ca T_length T_bytes C_size C_given C_empty C_drafted C_draftedGiven C_block C_left C_right C_pivot C_positive C_negative C_live C_needed R_kind R_place R_at R_token R_tokenPlace R_number R_state R_block R_positive R_negative R_left R_right R_pivot L_of F_cut F_labelledA F_labelledB F_row A_root A_words A_known u.1 u.2.1 u.2.2.1 u.2.2.2.1 u.2.2.2.2.1 u.2.2.2.2.2.1 u.2.2.2.2.2.2.1 u.2.2.2.2.2.2.2 B_table B_nextTable) 0 0) (F0 m 43 ls [])) →
      W p l e rm_G_build s m args below meth c H locs 0 0 (QV D A below args s (fun (u : Int32 × (Nat → Int32) × (Nat → Int32) × (Nat → Int32) × (Nat → Int32) × (Nat → Int32) × (Nat → Int32) × (Nat → Int32)) => k u.1 u.2.1 u.2.2.1 u.2.2.2.1 u.2.2.2.2.1 u.2.2.2.2.2.1 u.2.2.2.2.2.2.1 u.2.2.2.2.2.2.2) (fun (u : Int32 × (Nat → Int32) × (Nat → Int32) × (Nat → Int32) × (Nat → Int32) × (Nat → Int32) × (Nat → Int32) × (Nat → Int32)) => WB ad ca T_length T_bytes C_size C_given C_empty C_drafted C_draftedGiven C_block C_left C_right C_pivot C_positive C_negative C_live C_needed R_kind R_place R_at R_token R_tokenPlace R_number R_state R_block R_positive R_negative R_left R_right R_pivot L_of F_cut F_labelledA F_labelledB F_row A_root A_words A_known u.1 u.2.1 u.2.2.1 u.2.2.2.1 u.2.2.2.2.1 u.2.2.2.2.2.1 u.2.2.2.2.2.2.1 u.2.2.2.2.2.2.2 B_table B_nextTable) 0 0) (F0 m 7 ls []) := by
  have hx := C0.1
  have hb := C0.2.1
  intro n
  induction n with
  | zero =>
    intro x3 G_sides H locs ls h
    exact False.elim h
  | succ n ih =>
    intro x3 G_sides H locs ls h hw hl h43
    unfold p_G_build_L7 at h
    refine lv_iload_n hx hb d_G_build_7 rfl (lv_at hl 3 rfl) ?_
    refine lv_sipush (v := 1024) hx hb d_G_build_8 (by decide) ?_
    refine lv_icmp_ge (tgt := 43) hx hb d_G_build_11 (by decide) (fun c_1 => ?_) (fun c_1 => ?_)
    · have h := h.1 c_1
      exact h43 _ _ _ _ h hw (lv_sub hl [0] rfl)
    · have h := h.2 c_1
      refine lv_aload_n hx hb d_G_build_14 rfl (lv_at hl 0 rfl) ?_
      refine x_get C0 hw 20 rfl rfl i_G 5 (by decide) wm_268 rfl rfl d_G_build_15 ?_
      refine lv_iload_n hx hb d_G_build_18 rfl (lv_at hl 3 rfl) ?_
      refine lv_aload_n hx hb d_G_build_19 rfl (lv_at hl 1 rfl) ?_
      refine lv_iload_n hx hb d_G_build_20 rfl (lv_at hl 2 rfl) ?_
      refine lv_iload_n hx hb d_G_build_21 rfl (lv_at hl 3 rfl) ?_
      refine x_callSi C0 hw hl (c_G_bitAt h) g_G_bitAt wm_619 wm_620 (As := [.ref (ad 18), .int x2, .int x3]) (rest := [.int x3, .ref (ad 26)]) rfl rfl (Nat.le_of_ble_eq_true rfl) ⟨rfl, rfl⟩ ⟨Nat.le_of_ble_eq_true rfl, Nat.le_of_ble_eq_true rfl⟩ ⟨Nat.le_of_ble_eq_true rfl, Nat.le_of_ble_eq_true rfl⟩ d_G_build_22 (fun r_2 u H locs h hw => ?_)
      refine lv_iconst (v := 1) hx hb d_G_build_25 (by decide) ?_
      refine lv_icmp_ne (tgt := 34) hx hb d_G_build_26 (by decide) (fun c_3 => ?_) (fun c_3 => ?_)
      · have h := h.1 c_3
        refine lv_bipush (v := -2) hx hb d_G_build_34 (by decide) ?_
        obtain ⟨hi_4, h⟩ := h
        refine x_iast C0 hw 26 rfl hi_4 (ws' := WB ad ca T_length T_bytes C_size C_given C_empty C_drafted C_draftedGiven C_block C_left C_right C_pivot C_positive C_negative C_live C_needed R_kind R_place R_at R_token R_tokenPlace R_number R_state R_block R_positive R_negative R_left R_right R_pivot L_of F_cut F_labelledA F_labelledB F_row A_root A_words A_known G_size G_variable G_low G_high G_numberOf G_nodeOf (upd G_sides x3.toNatClampNeg (-2 : Int32)) G_waiting B_table B_nextTable) rfl d_G_build_36 (fun H locs hw => ?_)
        refine lv_iinc (v := (x3 + 1)) (lv' := [(3, .int (x3 + 1)), (0, .ref (ad 20)), (1, .ref (ad 18)), (2, .int x2)]) hx hb d_G_build_37 hl (k := 3) rfl rfl (by decide) rfl (fun ls hl => ?_)
        refine lv_goto (tgt := 7) hx hb d_G_build_40 (by decide) ?_
        exact ih _ _ h hw (lv_sub hl [1, 2, 3, 0] rfl) h43
      · have h := h.2 c_3
        refine lv_bipush (v := -3) hx hb d_G_build_29 (by decide) ?_
        refine lv_goto (tgt := 36) hx hb d_G_build_31 (by decide) ?_
        obtain ⟨hi_5, h⟩ := h
        refine x_iast C0 hw 26 rfl hi_5 (ws' := WB ad ca T_length T_bytes C_size C_given C_empty C_drafted C_draftedGiven C_block C_left C_right C_pivot C_positive C_negative C_live C_needed R_kind R_place R_at R_token R_tokenPlace R_number R_state R_block R_positive R_negative R_left R_right R_pivot L_of F_cut F_labelledA F_labelledB F_row A_root A_words A_known G_size G_variable G_low G_high G_numberOf G_nodeOf (upd G_sides x3.toNatClampNeg (-3 : Int32)) G_waiting B_table B_nextTable) rfl d_G_build_36 (fun H locs hw => ?_)
        refine lv_iinc (v := (x3 + 1)) (lv' := [(3, .int (x3 + 1)), (0, .ref (ad 20)), (1, .ref (ad 18)), (2, .int x2)]) hx hb d_G_build_37 hl (k := 3) rfl rfl (by decide) rfl (fun ls hl => ?_)
        refine lv_goto (tgt := 7) hx hb d_G_build_40 (by decide) ?_
        exact ih _ _ h hw (lv_sub hl [1, 2, 3, 0] rfl) h43
set_option maxHeartbeats 4000000 in
set_option maxRecDepth 100000 in
theorem b_G_build_L60 {p : Program} {l : Launch} {e : Env} {s : State} {m : MethodId} {args : Array Value} {below : List Frame} {meth : Method} {c : Code} {D : va_G} {ca : Nat → ClassId} {tp : Nat} {A : Nat → Prop} {ad : Nat → Nat} {T_length : Int32} {T_bytes : Nat → Int32} {C_size : Int32} {C_given : Int32} {C_empty : Int32} {C_drafted : Int32} {C_draftedGiven : Int32} {C_block : Nat → Int32} {C_left : Nat → Int32} {C_right : Nat → Int32} {C_pivot : Nat → Int32} {C_positive : Nat → Int32} {C_negative : Nat → Int32} {C_live : Nat → Int32} {C_needed : Nat → Int32} {R_kind : Int32} {R_place : Int32} {R_at : Int32} {R_token : Int32} {R_tokenPlace : Int32} {R_number : Int32} {R_state : Int32} {R_block : Int32} {R_positive : Int32} {R_negative : Int32} {R_left : Int32} {R_right : Int32} {R_pivot : Int32} {L_of : Nat → Int32} {F_cut : Int32} {F_labelledA : Int32} {F_labelledB : Int32} {F_row : Nat → Int64} {A_root : Int32} {A_words : Nat → Int64} {A_known : Nat → Int32} {G_nodeOf : Nat → Int32} {G_waiting : Nat → Int32} {B_table : Nat → Int64} {B_nextTable : Nat → Int64} {x3 : Int32} {x4 : Int32} {k : Int32 → (Nat → Int32) → (Nat → Int32) → (Nat → Int32) → (Nat → Int32) → (Nat → Int32) → (Nat → Int32) → (Nat → Int32) → Prop} {k108 : Int32 → (Nat → Int32) → (Nat → Int32) → (Nat → Int32) → (Nat → Int32) → (Nat → Int32) → Prop} (C0 : CX p s m args meth c b_G_build 6 none R_G "build" D ca tp A) :
    ∀ (n : Nat) (x5 : Int32) (G_size : Int32) (G_variable : Nat → Int32) (G_low : Nat → Int32) (G_high : Nat → Int32) (G_numberOf : Nat → Int32) (G_sides : Nat → Int32) {H : Heap} {locs : List Loc} {ls : Array Slot}, p_G_build_L60 x3 x4 k108 n x5 G_size G_variable G_low G_high G_numberOf G_sides → WH D A s (WB ad ca T_length T_bytes C_size C_given C_empty C_drafted C_draftedGiven C_block C_left C_right C_pivot C_positive C_negative C_live C_needed R_kind R_place R_at R_token R_tokenPlace R_number R_state R_block R_positive R_negative R_left R_right R_pivot L_of F_cut F_labelledA F_labelledB F_row A_root A_words A_known G_size G_variable G_low G_high G_numberOf G_nodeOf G_sides G_waiting B_table B_nextTable) H locs → lv_has ls 6 [(0, .ref (ad 20)), (3, .int x3), (4, .int x4), (5, .int x5)] →
      (∀ (G_size : Int32) (G_variable : Nat → Int32) (G_low : Nat → Int32) (G_high : Nat → Int32) (G_numberOf : Nat → Int32) (G_sides : Nat → Int32) (H : Heap) (locs : List Loc) (ls : Array Slot), k108 G_size G_variable G_low G_high G_numberOf G_sides → WH D A s (WB ad ca T_length T_bytes C_size C_given C_empty C_drafted C_draftedGiven C_block C_left C_right C_pivot C_positive C_negative C_live C_needed R_kind R_place R_at R_token R_tokenPlace R_number R_state R_block R_positive R_negative R_left R_right R_pivot L_of F_cut F_labelledA F_labelledB F_row A_root A_words A_known G_size G_variable G_low G_high G_numberOf G_nodeOf G_sides G_waiting B_table B_nextTable) H locs → lv_has ls 6 [(0, .ref (ad 20)), (3, .int x3)] → W p l e rm_G_build s m args below meth c H locs 0 0 (QV D A below args s (fun (u : Int32 × (Nat → Int32) × (Nat → Int32) × (Nat → Int32) × (Nat → Int32) × (Nat → Int32) × (Nat → Int32) × (Nat → Int32)) => k u.1 u.2.1 u.2.2.1 u.2.2.2.1 u.2.2.2.2.1 u.2.2.2.2.2.1 u.2.2.2.2.2.2.1 u.2.2.2.2.2.2.2) (fun (u : Int32 × (Nat → Int32) × (Nat → Int32) × (Nat → Int32) × (Nat → Int32) × (Nat → Int32) × (Nat → Int32) × (Nat → Int32)) => WB ad ca T_length T_bytes C_size C_given C_empty C_drafted C_draftedGiven C_block C_left C_right C_pivot C_positive C_negative C_live C_needed R_kind R_place R_at R_token R_tokenPlace R_number R_state R_block R_positive R_negative R_left R_right R_pivot L_of F_cut F_labelledA F_labelledB F_row A_root A_words A_known u.1 u.2.1 u.2.2.1 u.2.2.2.1 u.2.2.2.2.1 u.2.2.2.2.2.1 u.2.2.2.2.2.2.1 u.2.2.2.2.2.2.2 B_table B_nextTable) 0 0) (F0 m 108 ls [])) →
      W p l e rm_G_build s m args below meth c H locs 0 0 (QV D A below args s (fun (u : Int32 × (Nat → Int32) × (Nat → Int32) × (Nat → Int32) × (Nat → Int32) × (Nat → Int32) × (Nat → Int32) × (Nat → Int32)) => k u.1 u.2.1 u.2.2.1 u.2.2.2.1 u.2.2.2.2.1 u.2.2.2.2.2.1 u.2.2.2.2.2.2.1 u.2.2.2.2.2.2.2) (fun (u : Int32 × (Nat → Int32) × (Nat → Int32) × (Nat → Int32) × (Nat → Int32) × (Nat → Int32) × (Nat → Int32) × (Nat → Int32)) => WB ad ca T_length T_bytes C_size C_given C_empty C_drafted C_draftedGiven C_block C_left C_right C_pivot C_positive C_negative C_live C_needed R_kind R_place R_at R_token R_tokenPlace R_number R_state R_block R_positive R_negative R_left R_right R_pivot L_of F_cut F_labelledA F_labelledB F_row A_root A_words A_known u.1 u.2.1 u.2.2.1 u.2.2.2.1 u.2.2.2.2.1 u.2.2.2.2.2.1 u.2.2.2.2.2.2.1 u.2.2.2.2.2.2.2 B_table B_nextTable) 0 0) (F0 m 60 ls []) := by
  have hx := C0.1
  have hb := C0.2.1
  intro n
  induction n with
  | zero =>
    intro x5 G_size G_variable G_low G_high G_numberOf G_sides H locs ls h
    exact False.elim h
  | succ n ih =>
    intro x5 G_size G_variable G_low G_high G_numberOf G_sides H locs ls h hw hl h108
    unfold p_G_build_L60 at h
    refine lv_iload hx hb d_G_build_60 (lv_at hl 3 rfl) ?_
    refine lv_iload_n hx hb d_G_build_62 rfl (lv_at hl 1 rfl) ?_
    refine x_callSNi C0 hw hl (c_B_bitOf h) g_B_bitOf wm_622 wm_456 (As := [.int x3]) (rest := [.int x5]) rfl rfl (Nat.le_of_ble_eq_true rfl) ⟨rfl, rfl⟩ ⟨Nat.le_of_ble_eq_true rfl, Nat.le_of_ble_eq_true rfl⟩ ⟨Nat.le_of_ble_eq_true rfl, Nat.le_of_ble_eq_true rfl⟩ d_G_build_63 (fun r_12 u H locs h hw => ?_)
    refine lv_icmp_ge (tgt := 108) hx hb d_G_build_66 (by decide) (fun c_13 => ?_) (fun c_13 => ?_)
    · have h := h.1 c_13
      exact h108 _ _ _ _ _ _ _ _ _ h hw (lv_sub hl [0, 1] rfl)
    · have h := h.2 c_13
      refine lv_aload_n hx hb d_G_build_69 rfl (lv_at hl 0 rfl) ?_
      refine x_get C0 hw 20 rfl rfl i_G 5 (by decide) wm_268 rfl rfl d_G_build_70 ?_
      refine lv_iload hx hb d_G_build_73 (lv_at hl 3 rfl) ?_
      refine lv_aload_n hx hb d_G_build_75 rfl (lv_at hl 0 rfl) ?_
      refine lv_iload_n hx hb d_G_build_76 rfl (lv_at hl 1 rfl) ?_
      refine lv_aload_n hx hb d_G_build_77 rfl (lv_at hl 0 rfl) ?_
      refine x_get C0 hw 20 rfl rfl i_G 5 (by decide) wm_268 rfl rfl d_G_build_78 ?_
      refine lv_iload hx hb d_G_build_81 (lv_at hl 3 rfl) ?_
      obtain ⟨hi_14, h⟩ := h
      refine x_iald C0 hw 26 rfl hi_14 d_G_build_83 ?_
      refine lv_aload_n hx hb d_G_build_84 rfl (lv_at hl 0 rfl) ?_
      refine x_get C0 hw 20 rfl rfl i_G 5 (by decide) wm_268 rfl rfl d_G_build_85 ?_
      refine lv_iload hx hb d_G_build_88 (lv_at hl 3 rfl) ?_
      refine lv_iload_n hx hb d_G_build_90 rfl (lv_at hl 1 rfl) ?_
      refine x_callSNi C0 hw hl (c_B_bitOf h) g_B_bitOf wm_622 wm_456 (As := [.int x3]) (rest := [.int x5, .ref (ad 26), .int (G_sides x5.toNatClampNeg), .int x3, .ref (ad 20), .int x5, .ref (ad 26)]) rfl rfl (Nat.le_of_ble_eq_true rfl) ⟨rfl, rfl⟩ ⟨Nat.le_of_ble_eq_true rfl, Nat.le_of_ble_eq_true rfl⟩ ⟨Nat.le_of_ble_eq_true rfl, Nat.le_of_ble_eq_true rfl⟩ d_G_build_91 (fun r_15 u H locs h hw => ?_)
      refine lv_iadd hx hb d_G_build_94 ?_
      obtain ⟨hi_16, h⟩ := h
      refine x_iald C0 hw 26 rfl hi_16 d_G_build_95 ?_
      refine lv_iload hx hb d_G_build_96 (lv_at hl 2 rfl) ?_
      refine x_callVi C0 hw hl (c_G_join h) g_G_join wm_623 ⟨wm_28, wm_625⟩ 20 rfl rfl rfl (As := [.int x3, .int (G_sides x5.toNatClampNeg), .int (G_sides (x5 + r_15).toNatClampNeg), .int x4]) (rest := [.int x5, .ref (ad 26)]) rfl rfl (Nat.le_of_ble_eq_true rfl) ⟨rfl, rfl⟩ ⟨Nat.le_of_ble_eq_true rfl, Nat.le_of_ble_eq_true rfl⟩ ⟨Nat.le_of_ble_eq_true rfl, Nat.le_of_ble_eq_true rfl⟩ d_G_build_98 (fun r_22 u H locs h hw => ?_)
      obtain ⟨G_size_17, G_variable_18, G_low_19, G_high_20, G_numberOf_21⟩ := u
      refine x_iast C0 hw 26 rfl hi_14 (ws' := WB ad ca T_length T_bytes C_size C_given C_empty C_drafted C_draftedGiven C_block C_left C_right C_pivot C_positive C_negative C_live C_needed R_kind R_place R_at R_token R_tokenPlace R_number R_state R_block R_positive R_negative R_left R_right R_pivot L_of F_cut F_labelledA F_labelledB F_row A_root A_words A_known G_size_17 G_variable_18 G_low_19 G_high_20 G_numberOf_21 G_nodeOf (upd G_sides x5.toNatClampNeg r_22) G_waiting B_table B_nextTable) rfl d_G_build_101 (fun H locs hw => ?_)
      refine lv_iinc (v := (x5 + 1)) (lv' := [(5, .int (x5 + 1)), (0, .ref (ad 20)), (3, .int x3), (4, .int x4)]) hx hb d_G_build_102 hl (k := 3) rfl rfl (by decide) rfl (fun ls hl => ?_)
      refine lv_goto (tgt := 60) hx hb d_G_build_105 (by decide) ?_
      exact ih _ _ _ _ _ _ _ h hw (lv_sub hl [1, 2, 3, 0] rfl) h108
set_option maxHeartbeats 4000000 in
set_option maxRecDepth 100000 in
theorem b_G_build_L46 {p : Program} {l : Launch} {e : Env} {s : State} {m : MethodId} {args : Array Value} {below : List Frame} {meth : Method} {c : Code} {D : va_G} {ca : Nat → ClassId} {tp : Nat} {A : Nat → Prop} {ad : Nat → Nat} {T_length : Int32} {T_bytes : Nat → Int32} {C_size : Int32} {C_given : Int32} {C_empty : Int32} {C_drafted : Int32} {C_draftedGiven : Int32} {C_block : Nat → Int32} {C_left : Nat → Int32} {C_right : Nat → Int32} {C_pivot : Nat → Int32} {C_positive : Nat → Int32} {C_negative : Nat → Int32} {C_live : Nat → Int32} {C_needed : Nat → Int32} {R_kind : Int32} {R_place : Int32} {R_at : Int32} {R_token : Int32} {R_tokenPlace : Int32} {R_number : Int32} {R_state : Int32} {R_block : Int32} {R_positive : Int32} {R_negative : Int32} {R_left : Int32} {R_right : Int32} {R_pivot : Int32} {L_of : Nat → Int32} {F_cut : Int32} {F_labelledA : Int32} {F_labelledB : Int32} {F_row : Nat → Int64} {A_root : Int32} {A_words : Nat → Int64} {A_known : Nat → Int32} {G_nodeOf : Nat → Int32} {G_waiting : Nat → Int32} {B_table : Nat → Int64} {B_nextTable : Nat → Int64}  {k : Int32 → (Nat → Int32) → (Nat → Int32) → (Nat → Int32) → (Nat → Int32) → (Nat → Int32) → (Nat → Int32) → (Nat → Int32) → Prop}  (C0 : CX p s m args meth c b_G_build 6 none R_G "build" D ca tp A) :
    ∀ (n : Nat) (x3 : Int32) (G_size : Int32) (G_variable : Nat → Int32) (G_low : Nat → Int32) (G_high : Nat → Int32) (G_numberOf : Nat → Int32) (G_sides : Nat → Int32) {H : Heap} {locs : List Loc} {ls : Array Slot}, p_G_build_L46 G_nodeOf G_waiting k n x3 G_size G_variable G_low G_high G_numberOf G_sides → WH D A s (WB ad ca T_length T_bytes C_size C_given C_empty C_drafted C_draftedGiven C_block C_left C_right C_pivot C_positive C_negative C_live C_needed R_kind R_place R_at R_token R_tokenPlace R_number R_state R_block R_positive R_negative R_left R_right R_pivot L_of F_cut F_labelledA F_labelledB F_row A_root A_words A_known G_size G_variable G_low G_high G_numberOf G_nodeOf G_sides G_waiting B_table B_nextTable) H locs → lv_has ls 6 [(0, .ref (ad 20)), (3, .int x3)] →
      W p l e rm_G_build s m args below meth c H locs 0 0 (QV D A below args s (fun (u : Int32 × (Nat → Int32) × (Nat → Int32) × (Nat → Int32) × (Nat → Int32) × (Nat → Int32) × (Nat → Int32) × (Nat → Int32)) => k u.1 u.2.1 u.2.2.1 u.2.2.2.1 u.2.2.2.2.1 u.2.2.2.2.2.1 u.2.2.2.2.2.2.1 u.2.2.2.2.2.2.2) (fun (u : Int32 × (Nat → Int32) × (Nat → Int32) × (Nat → Int32) × (Nat → Int32) × (Nat → Int32) × (Nat → Int32) × (Nat → Int32)) => WB ad ca T_length T_bytes C_size C_given C_empty C_drafted C_draftedGiven C_block C_left C_right C_pivot C_positive C_negative C_live C_needed R_kind R_place R_at R_token R_tokenPlace R_number R_state R_block R_positive R_negative R_left R_right R_pivot L_of F_cut F_labelledA F_labelledB F_row A_root A_words A_known u.1 u.2.1 u.2.2.1 u.2.2.2.1 u.2.2.2.2.1 u.2.2.2.2.2.1 u.2.2.2.2.2.2.1 u.2.2.2.2.2.2.2 B_table B_nextTable) 0 0) (F0 m 46 ls []) := by
  have hx := C0.1
  have hb := C0.2.1
  intro n
  induction n with
  | zero =>
    intro x3 G_size G_variable G_low G_high G_numberOf G_sides H locs ls h
    exact False.elim h
  | succ n ih =>
    intro x3 G_size G_variable G_low G_high G_numberOf G_sides H locs ls h hw hl
    unfold p_G_build_L46 at h
    refine lv_iload_n hx hb d_G_build_46 rfl (lv_at hl 1 rfl) ?_
    refine lv_iconst (v := 1) hx hb d_G_build_47 (by decide) ?_
    refine lv_icmp_lt (tgt := 114) hx hb d_G_build_48 (by decide) (fun c_7 => ?_) (fun c_7 => ?_)
    · have h := h.1 c_7
      refine lv_aload_n hx hb d_G_build_114 rfl (lv_at hl 0 rfl) ?_
      refine lv_aload_n hx hb d_G_build_115 rfl (lv_at hl 0 rfl) ?_
      refine x_get C0 hw 20 rfl rfl i_G 5 (by decide) wm_268 rfl rfl d_G_build_116 ?_
      refine lv_iconst (v := 0) hx hb d_G_build_119 (by decide) ?_
      refine x_iald C0 hw 26 rfl (show vp_in (0 : Int32) 1024 by unfold vp_in; decide) d_G_build_120 ?_
      refine x_callVv C0 hw hl (c_G_numberFrom h) g_G_numberFrom wm_627 ⟨wm_29, wm_629⟩ 20 rfl rfl rfl (As := [.int (G_sides (0 : Int32).toNatClampNeg)]) (rest := []) rfl rfl (Nat.le_of_ble_eq_true rfl) ⟨rfl, rfl⟩ ⟨Nat.le_of_ble_eq_true rfl, Nat.le_of_ble_eq_true rfl⟩ ⟨Nat.le_of_ble_eq_true rfl, Nat.le_of_ble_eq_true rfl⟩ d_G_build_121 (fun u H locs h hw => ?_)
      obtain ⟨G_numberOf_8, G_nodeOf_9, G_waiting_10⟩ := u
      exact x_vret C0 hw (G_size, G_variable, G_low, G_high, G_numberOf_8, G_nodeOf_9, G_sides, G_waiting_10) h rfl d_G_build_124
    · have h := h.2 c_7
      refine lv_aload_n hx hb d_G_build_51 rfl (lv_at hl 0 rfl) ?_
      refine x_get C0 hw 20 rfl rfl i_G 7 (by decide) wm_270 rfl rfl d_G_build_52 ?_
      refine lv_istore (lv' := [(4, .int G_size), (0, .ref (ad 20)), (3, .int x3)]) hx hb d_G_build_55 hl (by decide) rfl (fun ls hl => ?_)
      refine lv_iconst (v := 0) hx hb d_G_build_57 (by decide) ?_
      refine lv_istore (lv' := [(5, .int (0 : Int32)), (4, .int G_size), (0, .ref (ad 20)), (3, .int x3)]) hx hb d_G_build_58 hl (by decide) rfl (fun ls hl => ?_)
      obtain ⟨j_29, h⟩ := h
      refine b_G_build_L60 C0 _ _ _ _ _ _ _ _ h hw (lv_sub hl [2, 3, 1, 0] rfl) (fun G_size_23 G_variable_24 G_low_25 G_high_26 G_numberOf_27 G_sides_28 H locs ls h hw hl => ?_)
      refine lv_iinc (v := (x3 + (-1))) (lv' := [(3, .int (x3 + (-1))), (0, .ref (ad 20))]) hx hb d_G_build_108 hl (k := 1) rfl rfl (by decide) rfl (fun ls hl => ?_)
      refine lv_goto (tgt := 46) hx hb d_G_build_111 (by decide) ?_
      exact ih _ _ _ _ _ _ _ h hw (lv_sub hl [1, 0] rfl)
set_option maxHeartbeats 4000000 in
set_option maxRecDepth 100000 in
theorem c_G_build {l : Launch} {D : va_G} {ca : Nat → ClassId} {tp : Nat} {ad : Nat → Nat} {T_length : Int32} {T_bytes : Nat → Int32} {C_size : Int32} {C_given : Int32} {C_empty : Int32} {C_drafted : Int32} {C_draftedGiven : Int32} {C_block : Nat → Int32} {C_left : Nat → Int32} {C_right : Nat → Int32} {C_pivot : Nat → Int32} {C_positive : Nat → Int32} {C_negative : Nat → Int32} {C_live : Nat → Int32} {C_needed : Nat → Int32} {R_kind : Int32} {R_place : Int32} {R_at : Int32} {R_token : Int32} {R_tokenPlace : Int32} {R_number : Int32} {R_state : Int32} {R_block : Int32} {R_positive : Int32} {R_negative : Int32} {R_left : Int32} {R_right : Int32} {R_pivot : Int32} {L_of : Nat → Int32} {F_cut : Int32} {F_labelledA : Int32} {F_labelledB : Int32} {F_row : Nat → Int64} {A_root : Int32} {A_words : Nat → Int64} {A_known : Nat → Int32} {G_size : Int32} {G_variable : Nat → Int32} {G_low : Nat → Int32} {G_high : Nat → Int32} {G_numberOf : Nat → Int32} {G_nodeOf : Nat → Int32} {G_sides : Nat → Int32} {G_waiting : Nat → Int32} {B_table : Nat → Int64} {B_nextTable : Nat → Int64} {x2 : Int32} {k : Int32 → (Nat → Int32) → (Nat → Int32) → (Nat → Int32) → (Nat → Int32) → (Nat → Int32) → (Nat → Int32) → (Nat → Int32) → Prop} (h : p_G_build A_words G_variable G_low G_high G_numberOf G_nodeOf G_sides G_waiting x2 k) :
    MTv l y_G_build b_G_build 6 none rm_G_build D ca tp [.ref (ad 20), .ref (ad 18), .int x2] (WB ad ca T_length T_bytes C_size C_given C_empty C_drafted C_draftedGiven C_block C_left C_right C_pivot C_positive C_negative C_live C_needed R_kind R_place R_at R_token R_tokenPlace R_number R_state R_block R_positive R_negative R_left R_right R_pivot L_of F_cut F_labelledA F_labelledB F_row A_root A_words A_known G_size G_variable G_low G_high G_numberOf G_nodeOf G_sides G_waiting B_table B_nextTable)
      (fun (u : Int32 × (Nat → Int32) × (Nat → Int32) × (Nat → Int32) × (Nat → Int32) × (Nat → Int32) × (Nat → Int32) × (Nat → Int32)) => k u.1 u.2.1 u.2.2.1 u.2.2.2.1 u.2.2.2.2.1 u.2.2.2.2.2.1 u.2.2.2.2.2.2.1 u.2.2.2.2.2.2.2)
      (fun (u : Int32 × (Nat → Int32) × (Nat → Int32) × (Nat → Int32) × (Nat → Int32) × (Nat → Int32) × (Nat → Int32) × (Nat → Int32)) => WB ad ca T_length T_bytes C_size C_given C_empty C_drafted C_draftedGiven C_block C_left C_right C_pivot C_positive C_negative C_live C_needed R_kind R_place R_at R_token R_tokenPlace R_number R_state R_block R_positive R_negative R_left R_right R_pivot L_of F_cut F_labelledA F_labelledB F_row A_root A_words A_known u.1 u.2.1 u.2.2.1 u.2.2.2.1 u.2.2.2.2.1 u.2.2.2.2.2.1 u.2.2.2.2.2.2.1 u.2.2.2.2.2.2.2 B_table B_nextTable) 0 0 := by
  refine x_entryv (own := R_G) (nm := "build") (by decide) rfl rfl (Nat.le_of_ble_eq_true rfl) (fun p e s m below meth c A ls C0 hw hl => ?_)
  have hx := C0.1
  have hb := C0.2.1
  have hl : lv_has ls 6 [(0, .ref (ad 20)), (1, .ref (ad 18)), (2, .int x2)] := hl
  unfold p_G_build at h
  refine lv_aload_n hx hb d_G_build_0 rfl (lv_at hl 0 rfl) ?_
  refine lv_iconst (v := 0) hx hb d_G_build_1 (by decide) ?_
  refine x_put C0 hw 20 rfl rfl i_G tk_G n_G 7 (by decide) wm_270 rfl rfl rfl rfl (Nat.le_of_ble_eq_true rfl) (ws' := WB ad ca T_length T_bytes C_size C_given C_empty C_drafted C_draftedGiven C_block C_left C_right C_pivot C_positive C_negative C_live C_needed R_kind R_place R_at R_token R_tokenPlace R_number R_state R_block R_positive R_negative R_left R_right R_pivot L_of F_cut F_labelledA F_labelledB F_row A_root A_words A_known (0 : Int32) G_variable G_low G_high G_numberOf G_nodeOf G_sides G_waiting B_table B_nextTable) rfl d_G_build_2 (fun H locs hw => ?_)
  refine lv_iconst (v := 0) hx hb d_G_build_5 (by decide) ?_
  refine lv_istore_n (lv' := [(3, .int (0 : Int32)), (0, .ref (ad 20)), (1, .ref (ad 18)), (2, .int x2)]) hx hb d_G_build_6 rfl hl (by decide) rfl (fun ls hl => ?_)
  obtain ⟨j_31, h⟩ := h
  refine b_G_build_L7 C0 _ _ _ h hw (lv_sub hl [1, 2, 3, 0] rfl) (fun G_sides_6 H locs ls h hw hl => ?_)
  refine lv_bipush (v := 10) hx hb d_G_build_43 (by decide) ?_
  refine lv_istore_n (lv' := [(3, .int (10 : Int32)), (0, .ref (ad 20))]) hx hb d_G_build_45 rfl hl (by decide) rfl (fun ls hl => ?_)
  obtain ⟨j_30, h⟩ := h
  refine b_G_build_L46 C0 _ _ _ _ _ _ _ _ h hw (lv_sub hl [1, 0] rfl)
theorem g_A_truth : GY y_A_truth b_A_truth 3 (some .int) 2 := ⟨wm_638, wm_60, by decide +kernel, by decide +kernel, by decide +kernel⟩
def p_A_truth (A_words : Nat → Int64) (A_known : Nat → Int32) (x1 : Int32) (x2 : Int32) (k : Int32 → Prop) : Prop :=
  ((x1 < (1 : Int32) → (k (-1 : Int32))) ∧ (¬ x1 < (1 : Int32) → (((200 : Int32) < x1 → (k (-1 : Int32))) ∧ (¬ (200 : Int32) < x1 → (vp_in x1 201 ∧ (((A_known x1.toNatClampNeg) = 0 → (k (-1 : Int32))) ∧ (¬ (A_known x1.toNatClampNeg) = 0 → ((x2 < 0 → (k (-1 : Int32))) ∧ (¬ x2 < 0 → ((x2 < (1024 : Int32) → (p_G_bitAt A_words (x1 * (16 : Int32)) x2 (fun (r_7 : Int32) => (k r_7)))) ∧ (¬ x2 < (1024 : Int32) → (k (-1 : Int32)))))))))))))
abbrev rm_A_truth : Room := { frames := 1, cells := 0, slots := 0, locals := 23 }
set_option maxHeartbeats 4000000 in
set_option maxRecDepth 100000 in
theorem c_A_truth {l : Launch} {D : va_G} {ca : Nat → ClassId} {tp : Nat} {ad : Nat → Nat} {T_length : Int32} {T_bytes : Nat → Int32} {C_size : Int32} {C_given : Int32} {C_empty : Int32} {C_drafted : Int32} {C_draftedGiven : Int32} {C_block : Nat → Int32} {C_left : Nat → Int32} {C_right : Nat → Int32} {C_pivot : Nat → Int32} {C_positive : Nat → Int32} {C_negative : Nat → Int32} {C_live : Nat → Int32} {C_needed : Nat → Int32} {R_kind : Int32} {R_place : Int32} {R_at : Int32} {R_token : Int32} {R_tokenPlace : Int32} {R_number : Int32} {R_state : Int32} {R_block : Int32} {R_positive : Int32} {R_negative : Int32} {R_left : Int32} {R_right : Int32} {R_pivot : Int32} {L_of : Nat → Int32} {F_cut : Int32} {F_labelledA : Int32} {F_labelledB : Int32} {F_row : Nat → Int64} {A_root : Int32} {A_words : Nat → Int64} {A_known : Nat → Int32} {G_size : Int32} {G_variable : Nat → Int32} {G_low : Nat → Int32} {G_high : Nat → Int32} {G_numberOf : Nat → Int32} {G_nodeOf : Nat → Int32} {G_sides : Nat → Int32} {G_waiting : Nat → Int32} {B_table : Nat → Int64} {B_nextTable : Nat → Int64} {x1 : Int32} {x2 : Int32} {k : Int32 → Prop} (h : p_A_truth A_words A_known x1 x2 k) :
    MTi l y_A_truth b_A_truth 3 (some .int) rm_A_truth D ca tp [.ref (ad 17), .int x1, .int x2] (WB ad ca T_length T_bytes C_size C_given C_empty C_drafted C_draftedGiven C_block C_left C_right C_pivot C_positive C_negative C_live C_needed R_kind R_place R_at R_token R_tokenPlace R_number R_state R_block R_positive R_negative R_left R_right R_pivot L_of F_cut F_labelledA F_labelledB F_row A_root A_words A_known G_size G_variable G_low G_high G_numberOf G_nodeOf G_sides G_waiting B_table B_nextTable)
      (fun r (_ : Unit) => k r)
      (fun (_ : Unit) => WB ad ca T_length T_bytes C_size C_given C_empty C_drafted C_draftedGiven C_block C_left C_right C_pivot C_positive C_negative C_live C_needed R_kind R_place R_at R_token R_tokenPlace R_number R_state R_block R_positive R_negative R_left R_right R_pivot L_of F_cut F_labelledA F_labelledB F_row A_root A_words A_known G_size G_variable G_low G_high G_numberOf G_nodeOf G_sides G_waiting B_table B_nextTable) 0 0 := by
  refine x_entryi (own := R_A) (nm := "truth") (by decide) rfl rfl (Nat.le_of_ble_eq_true rfl) (fun p e s m below meth c A ls C0 hw hl => ?_)
  have hx := C0.1
  have hb := C0.2.1
  have hl : lv_has ls 3 [(0, .ref (ad 17)), (1, .int x1), (2, .int x2)] := hl
  unfold p_A_truth at h
  refine lv_iload_n hx hb d_A_truth_0 rfl (lv_at hl 1 rfl) ?_
  refine lv_iconst (v := 1) hx hb d_A_truth_1 (by decide) ?_
  refine lv_icmp_lt (tgt := 32) hx hb d_A_truth_2 (by decide) (fun c_1 => ?_) (fun c_1 => ?_)
  · have h := h.1 c_1
    refine lv_iconst (v := -1) hx hb d_A_truth_32 (by decide) ?_
    exact x_iret C0 hw () h rfl d_A_truth_33
  · have h := h.2 c_1
    refine lv_iload_n hx hb d_A_truth_5 rfl (lv_at hl 1 rfl) ?_
    refine lv_sipush (v := 200) hx hb d_A_truth_6 (by decide) ?_
    refine lv_icmp_gt (tgt := 32) hx hb d_A_truth_9 (by decide) (fun c_2 => ?_) (fun c_2 => ?_)
    · have h := h.1 c_2
      refine lv_iconst (v := -1) hx hb d_A_truth_32 (by decide) ?_
      exact x_iret C0 hw () h rfl d_A_truth_33
    · have h := h.2 c_2
      refine lv_aload_n hx hb d_A_truth_12 rfl (lv_at hl 0 rfl) ?_
      refine x_get C0 hw 17 rfl rfl i_A 1 (by decide) wm_290 rfl rfl d_A_truth_13 ?_
      refine lv_iload_n hx hb d_A_truth_16 rfl (lv_at hl 1 rfl) ?_
      obtain ⟨hi_3, h⟩ := h
      refine x_zald C0 hw 19 rfl hi_3 d_A_truth_17 ?_
      refine lv_if_eq (tgt := 32) hx hb d_A_truth_18 (by decide) (fun c_4 => ?_) (fun c_4 => ?_)
      · have h := h.1 c_4
        refine lv_iconst (v := -1) hx hb d_A_truth_32 (by decide) ?_
        exact x_iret C0 hw () h rfl d_A_truth_33
      · have h := h.2 c_4
        refine lv_iload_n hx hb d_A_truth_21 rfl (lv_at hl 2 rfl) ?_
        refine lv_if_lt (tgt := 32) hx hb d_A_truth_22 (by decide) (fun c_5 => ?_) (fun c_5 => ?_)
        · have h := h.1 c_5
          refine lv_iconst (v := -1) hx hb d_A_truth_32 (by decide) ?_
          exact x_iret C0 hw () h rfl d_A_truth_33
        · have h := h.2 c_5
          refine lv_iload_n hx hb d_A_truth_25 rfl (lv_at hl 2 rfl) ?_
          refine lv_sipush (v := 1024) hx hb d_A_truth_26 (by decide) ?_
          refine lv_icmp_lt (tgt := 34) hx hb d_A_truth_29 (by decide) (fun c_6 => ?_) (fun c_6 => ?_)
          · have h := h.1 c_6
            refine lv_aload_n hx hb d_A_truth_34 rfl (lv_at hl 0 rfl) ?_
            refine x_get C0 hw 17 rfl rfl i_A 0 (by decide) wm_289 rfl rfl d_A_truth_35 ?_
            refine lv_iload_n hx hb d_A_truth_38 rfl (lv_at hl 1 rfl) ?_
            refine lv_bipush (v := 16) hx hb d_A_truth_39 (by decide) ?_
            refine lv_imul hx hb d_A_truth_41 ?_
            refine lv_iload_n hx hb d_A_truth_42 rfl (lv_at hl 2 rfl) ?_
            refine x_callSi C0 hw hl (c_G_bitAt h) g_G_bitAt wm_639 wm_620 (As := [.ref (ad 18), .int (x1 * (16 : Int32)), .int x2]) (rest := []) rfl rfl (Nat.le_of_ble_eq_true rfl) ⟨rfl, rfl⟩ ⟨Nat.le_of_ble_eq_true rfl, Nat.le_of_ble_eq_true rfl⟩ ⟨Nat.le_of_ble_eq_true rfl, Nat.le_of_ble_eq_true rfl⟩ d_A_truth_43 (fun r_7 u H locs h hw => ?_)
            exact x_iret C0 hw () h rfl d_A_truth_46
          · have h := h.2 c_6
            refine lv_iconst (v := -1) hx hb d_A_truth_32 (by decide) ?_
            exact x_iret C0 hw () h rfl d_A_truth_33
theorem g_A_trueValuations : GY y_A_trueValuations b_A_trueValuations 3 (some .int) 0 := ⟨wm_651, wm_60, by decide +kernel, by decide +kernel, by decide +kernel⟩
def p_A_trueValuations_L4 (A_root : Int32) (A_words : Nat → Int64) (k : Int32 → Prop) : Nat → Int32 → Int32 → Prop
  | 0, _, _ => False
  | n + 1, x1, x2 =>
    (((16 : Int32) ≤ x2 → (k x1)) ∧ (¬ (16 : Int32) ≤ x2 → (vp_in ((A_root * (16 : Int32)) + x2) 3216 ∧ (p_K_bitCount (A_words ((A_root * (16 : Int32)) + x2).toNatClampNeg) (fun (r_3 : Int32) => (p_A_trueValuations_L4 A_root A_words k n (x1 + r_3) (x2 + 1)))))))
def p_A_trueValuations (A_root : Int32) (A_words : Nat → Int64) (k : Int32 → Prop) : Prop :=
  (∃ j_4, p_A_trueValuations_L4 A_root A_words k j_4 (0 : Int32) (0 : Int32))
abbrev rm_A_trueValuations : Room := { frames := 1, cells := 0, slots := 0, locals := 21 }
set_option maxHeartbeats 4000000 in
set_option maxRecDepth 100000 in
theorem b_A_trueValuations_L4 {p : Program} {l : Launch} {e : Env} {s : State} {m : MethodId} {args : Array Value} {below : List Frame} {meth : Method} {c : Code} {D : va_G} {ca : Nat → ClassId} {tp : Nat} {A : Nat → Prop} {ad : Nat → Nat} {T_length : Int32} {T_bytes : Nat → Int32} {C_size : Int32} {C_given : Int32} {C_empty : Int32} {C_drafted : Int32} {C_draftedGiven : Int32} {C_block : Nat → Int32} {C_left : Nat → Int32} {C_right : Nat → Int32} {C_pivot : Nat → Int32} {C_positive : Nat → Int32} {C_negative : Nat → Int32} {C_live : Nat → Int32} {C_needed : Nat → Int32} {R_kind : Int32} {R_place : Int32} {R_at : Int32} {R_token : Int32} {R_tokenPlace : Int32} {R_number : Int32} {R_state : Int32} {R_block : Int32} {R_positive : Int32} {R_negative : Int32} {R_left : Int32} {R_right : Int32} {R_pivot : Int32} {L_of : Nat → Int32} {F_cut : Int32} {F_labelledA : Int32} {F_labelledB : Int32} {F_row : Nat → Int64} {A_root : Int32} {A_words : Nat → Int64} {A_known : Nat → Int32} {G_size : Int32} {G_variable : Nat → Int32} {G_low : Nat → Int32} {G_high : Nat → Int32} {G_numberOf : Nat → Int32} {G_nodeOf : Nat → Int32} {G_sides : Nat → Int32} {G_waiting : Nat → Int32} {B_table : Nat → Int64} {B_nextTable : Nat → Int64}  {k : Int32 → Prop}  (C0 : CX p s m args meth c b_A_trueValuations 3 (some .int) R_A "trueValuations" D ca tp A) :
    ∀ (n : Nat) (x1 : Int32) (x2 : Int32) {H : Heap} {locs : List Loc} {ls : Array Slot}, p_A_trueValuations_L4 A_root A_words k n x1 x2 → WH D A s (WB ad ca T_length T_bytes C_size C_given C_empty C_drafted C_draftedGiven C_block C_left C_right C_pivot C_positive C_negative C_live C_needed R_kind R_place R_at R_token R_tokenPlace R_number R_state R_block R_positive R_negative R_left R_right R_pivot L_of F_cut F_labelledA F_labelledB F_row A_root A_words A_known G_size G_variable G_low G_high G_numberOf G_nodeOf G_sides G_waiting B_table B_nextTable) H locs → lv_has ls 3 [(0, .ref (ad 17)), (1, .int x1), (2, .int x2)] →
      W p l e rm_A_trueValuations s m args below meth c H locs 0 0 (QI D A below args s (fun r (_ : Unit) => k r) (fun (_ : Unit) => WB ad ca T_length T_bytes C_size C_given C_empty C_drafted C_draftedGiven C_block C_left C_right C_pivot C_positive C_negative C_live C_needed R_kind R_place R_at R_token R_tokenPlace R_number R_state R_block R_positive R_negative R_left R_right R_pivot L_of F_cut F_labelledA F_labelledB F_row A_root A_words A_known G_size G_variable G_low G_high G_numberOf G_nodeOf G_sides G_waiting B_table B_nextTable) 0 0) (F0 m 4 ls []) := by
  have hx := C0.1
  have hb := C0.2.1
  intro n
  induction n with
  | zero =>
    intro x1 x2 H locs ls h
    exact False.elim h
  | succ n ih =>
    intro x1 x2 H locs ls h hw hl
    unfold p_A_trueValuations_L4 at h
    refine lv_iload_n hx hb d_A_trueValuations_4 rfl (lv_at hl 2 rfl) ?_
    refine lv_bipush (v := 16) hx hb d_A_trueValuations_5 (by decide) ?_
    refine lv_icmp_ge (tgt := 36) hx hb d_A_trueValuations_7 (by decide) (fun c_1 => ?_) (fun c_1 => ?_)
    · have h := h.1 c_1
      refine lv_iload_n hx hb d_A_trueValuations_36 rfl (lv_at hl 1 rfl) ?_
      exact x_iret C0 hw () h rfl d_A_trueValuations_37
    · have h := h.2 c_1
      refine lv_iload_n hx hb d_A_trueValuations_10 rfl (lv_at hl 1 rfl) ?_
      refine lv_aload_n hx hb d_A_trueValuations_11 rfl (lv_at hl 0 rfl) ?_
      refine x_get C0 hw 17 rfl rfl i_A 0 (by decide) wm_289 rfl rfl d_A_trueValuations_12 ?_
      refine lv_aload_n hx hb d_A_trueValuations_15 rfl (lv_at hl 0 rfl) ?_
      refine x_get C0 hw 17 rfl rfl i_A 3 (by decide) wm_293 rfl rfl d_A_trueValuations_16 ?_
      refine lv_bipush (v := 16) hx hb d_A_trueValuations_19 (by decide) ?_
      refine lv_imul hx hb d_A_trueValuations_21 ?_
      refine lv_iload_n hx hb d_A_trueValuations_22 rfl (lv_at hl 2 rfl) ?_
      refine lv_iadd hx hb d_A_trueValuations_23 ?_
      obtain ⟨hi_2, h⟩ := h
      refine x_lald C0 hw 18 rfl hi_2 d_A_trueValuations_24 ?_
      refine x_callSi C0 hw hl (c_K_bitCount h) g_K_bitCount wm_652 wm_653 (As := [.long (A_words ((A_root * (16 : Int32)) + x2).toNatClampNeg)]) (rest := [.int x1]) rfl rfl (Nat.le_of_ble_eq_true rfl) ⟨rfl, rfl⟩ ⟨Nat.le_of_ble_eq_true rfl, Nat.le_of_ble_eq_true rfl⟩ ⟨Nat.le_of_ble_eq_true rfl, Nat.le_of_ble_eq_true rfl⟩ d_A_trueValuations_25 (fun r_3 u H locs h hw => ?_)
      refine lv_iadd hx hb d_A_trueValuations_28 ?_
      refine lv_istore_n (lv' := [(1, .int (x1 + r_3)), (0, .ref (ad 17)), (2, .int x2)]) hx hb d_A_trueValuations_29 rfl hl (by decide) rfl (fun ls hl => ?_)
      refine lv_iinc (v := (x2 + 1)) (lv' := [(2, .int (x2 + 1)), (1, .int (x1 + r_3)), (0, .ref (ad 17))]) hx hb d_A_trueValuations_30 hl (k := 2) rfl rfl (by decide) rfl (fun ls hl => ?_)
      refine lv_goto (tgt := 4) hx hb d_A_trueValuations_33 (by decide) ?_
      exact ih _ _ h hw (lv_sub hl [2, 1, 0] rfl)
set_option maxHeartbeats 4000000 in
set_option maxRecDepth 100000 in
theorem c_A_trueValuations {l : Launch} {D : va_G} {ca : Nat → ClassId} {tp : Nat} {ad : Nat → Nat} {T_length : Int32} {T_bytes : Nat → Int32} {C_size : Int32} {C_given : Int32} {C_empty : Int32} {C_drafted : Int32} {C_draftedGiven : Int32} {C_block : Nat → Int32} {C_left : Nat → Int32} {C_right : Nat → Int32} {C_pivot : Nat → Int32} {C_positive : Nat → Int32} {C_negative : Nat → Int32} {C_live : Nat → Int32} {C_needed : Nat → Int32} {R_kind : Int32} {R_place : Int32} {R_at : Int32} {R_token : Int32} {R_tokenPlace : Int32} {R_number : Int32} {R_state : Int32} {R_block : Int32} {R_positive : Int32} {R_negative : Int32} {R_left : Int32} {R_right : Int32} {R_pivot : Int32} {L_of : Nat → Int32} {F_cut : Int32} {F_labelledA : Int32} {F_labelledB : Int32} {F_row : Nat → Int64} {A_root : Int32} {A_words : Nat → Int64} {A_known : Nat → Int32} {G_size : Int32} {G_variable : Nat → Int32} {G_low : Nat → Int32} {G_high : Nat → Int32} {G_numberOf : Nat → Int32} {G_nodeOf : Nat → Int32} {G_sides : Nat → Int32} {G_waiting : Nat → Int32} {B_table : Nat → Int64} {B_nextTable : Nat → Int64}  {k : Int32 → Prop} (h : p_A_trueValuations A_root A_words k) :
    MTi l y_A_trueValuations b_A_trueValuations 3 (some .int) rm_A_trueValuations D ca tp [.ref (ad 17)] (WB ad ca T_length T_bytes C_size C_given C_empty C_drafted C_draftedGiven C_block C_left C_right C_pivot C_positive C_negative C_live C_needed R_kind R_place R_at R_token R_tokenPlace R_number R_state R_block R_positive R_negative R_left R_right R_pivot L_of F_cut F_labelledA F_labelledB F_row A_root A_words A_known G_size G_variable G_low G_high G_numberOf G_nodeOf G_sides G_waiting B_table B_nextTable)
      (fun r (_ : Unit) => k r)
      (fun (_ : Unit) => WB ad ca T_length T_bytes C_size C_given C_empty C_drafted C_draftedGiven C_block C_left C_right C_pivot C_positive C_negative C_live C_needed R_kind R_place R_at R_token R_tokenPlace R_number R_state R_block R_positive R_negative R_left R_right R_pivot L_of F_cut F_labelledA F_labelledB F_row A_root A_words A_known G_size G_variable G_low G_high G_numberOf G_nodeOf G_sides G_waiting B_table B_nextTable) 0 0 := by
  refine x_entryi (own := R_A) (nm := "trueValuations") (by decide) rfl rfl (Nat.le_of_ble_eq_true rfl) (fun p e s m below meth c A ls C0 hw hl => ?_)
  have hx := C0.1
  have hb := C0.2.1
  have hl : lv_has ls 3 [(0, .ref (ad 17))] := hl
  unfold p_A_trueValuations at h
  refine lv_iconst (v := 0) hx hb d_A_trueValuations_0 (by decide) ?_
  refine lv_istore_n (lv' := [(1, .int (0 : Int32)), (0, .ref (ad 17))]) hx hb d_A_trueValuations_1 rfl hl (by decide) rfl (fun ls hl => ?_)
  refine lv_iconst (v := 0) hx hb d_A_trueValuations_2 (by decide) ?_
  refine lv_istore_n (lv' := [(2, .int (0 : Int32)), (1, .int (0 : Int32)), (0, .ref (ad 17))]) hx hb d_A_trueValuations_3 rfl hl (by decide) rfl (fun ls hl => ?_)
  obtain ⟨j_4, h⟩ := h
  refine b_A_trueValuations_L4 C0 _ _ _ h hw (lv_sub hl [2, 1, 0] rfl)
theorem g_A_take : GY y_A_take b_A_take 5 none 2 := ⟨wm_589, wm_60, by decide +kernel, by decide +kernel, by decide +kernel⟩
def p_A_take_L10 (C_needed : Nat → Int32) (k35 : (Nat → Int32) → Prop) : Nat → Int32 → (Nat → Int32) → Prop
  | 0, _, _ => False
  | n + 1, x3, A_known =>
    (((200 : Int32) < x3 → (k35 A_known)) ∧ (¬ (200 : Int32) < x3 → (vp_in x3 201 ∧ (p_A_take_L10 C_needed k35 n (x3 + 1) (upd A_known x3.toNatClampNeg (vp_nar .boolean (C_needed x3.toNatClampNeg)))))))
def p_A_take_L51 (F_row : Nat → Int64) (A_root : Int32) (x3 : Int32) (k85 : (Nat → Int64) → Prop) : Nat → Int32 → (Nat → Int64) → Prop
  | 0, _, _ => False
  | n + 1, x4, A_words =>
    ((A_root < x4 → (k85 A_words)) ∧ (¬ A_root < x4 → (vp_in x4 201 ∧ (vp_in ((x4 * (16 : Int32)) + x3) 3216 ∧ (p_A_take_L51 F_row A_root x3 k85 n (x4 + 1) (vp_updL A_words ((x4 * (16 : Int32)) + x3).toNatClampNeg (F_row x4.toNatClampNeg)))))))
def p_A_take_L37 (C_empty : Int32) (C_block : Nat → Int32) (C_left : Nat → Int32) (C_right : Nat → Int32) (C_pivot : Nat → Int32) (C_positive : Nat → Int32) (C_negative : Nat → Int32) (C_needed : Nat → Int32) (F_cut : Int32) (F_labelledA : Int32) (F_labelledB : Int32) (A_root : Int32) (k91 : (Nat → Int64) → (Nat → Int64) → Prop) : Nat → Int32 → (Nat → Int64) → (Nat → Int64) → Prop
  | 0, _, _, _ => False
  | n + 1, x3, F_row, A_words =>
    (((16 : Int32) ≤ x3 → (k91 F_row A_words)) ∧ (¬ (16 : Int32) ≤ x3 → (p_F_workOut C_empty C_block C_left C_right C_pivot C_positive C_negative C_needed F_cut F_labelledA F_labelledB F_row x3 (fun (F_row_5 : Nat → Int64) => (∃ j_11, p_A_take_L51 F_row_5 A_root x3 (fun (A_words_10 : Nat → Int64) => (p_A_take_L37 C_empty C_block C_left C_right C_pivot C_positive C_negative C_needed F_cut F_labelledA F_labelledB A_root k91 n (x3 + 1) F_row_5 A_words_10)) j_11 (1 : Int32) A_words)))))
def p_A_take (C_empty : Int32) (C_block : Nat → Int32) (C_left : Nat → Int32) (C_right : Nat → Int32) (C_pivot : Nat → Int32) (C_positive : Nat → Int32) (C_negative : Nat → Int32) (C_needed : Nat → Int32) (F_cut : Int32) (F_labelledA : Int32) (F_labelledB : Int32) (F_row : Nat → Int64) (A_words : Nat → Int64) (A_known : Nat → Int32) (G_variable : Nat → Int32) (G_low : Nat → Int32) (G_high : Nat → Int32) (G_numberOf : Nat → Int32) (G_nodeOf : Nat → Int32) (G_sides : Nat → Int32) (G_waiting : Nat → Int32) (k : (Nat → Int64) → Int32 → (Nat → Int64) → (Nat → Int32) → Int32 → (Nat → Int32) → (Nat → Int32) → (Nat → Int32) → (Nat → Int32) → (Nat → Int32) → (Nat → Int32) → (Nat → Int32) → Prop) : Prop :=
  (∃ j_24, p_A_take_L10 C_needed (fun (A_known_3 : Nat → Int32) => (∃ j_23, p_A_take_L37 C_empty C_block C_left C_right C_pivot C_positive C_negative C_needed F_cut F_labelledA F_labelledB C_empty (fun (F_row_12 : Nat → Int64) (A_words_13 : Nat → Int64) => (p_G_build A_words_13 G_variable G_low G_high G_numberOf G_nodeOf G_sides G_waiting (C_empty * (16 : Int32)) (fun (G_size_14 : Int32) (G_variable_15 : Nat → Int32) (G_low_16 : Nat → Int32) (G_high_17 : Nat → Int32) (G_numberOf_18 : Nat → Int32) (G_nodeOf_19 : Nat → Int32) (G_sides_20 : Nat → Int32) (G_waiting_21 : Nat → Int32) => (k F_row_12 C_empty A_words_13 A_known_3 G_size_14 G_variable_15 G_low_16 G_high_17 G_numberOf_18 G_nodeOf_19 G_sides_20 G_waiting_21)))) j_23 (0 : Int32) F_row A_words)) j_24 (1 : Int32) A_known)
abbrev rm_A_take : Room := { frames := 4, cells := 0, slots := 0, locals := 92 }
set_option maxHeartbeats 4000000 in
set_option maxRecDepth 100000 in
theorem b_A_take_L10 {p : Program} {l : Launch} {e : Env} {s : State} {m : MethodId} {args : Array Value} {below : List Frame} {meth : Method} {c : Code} {D : va_G} {ca : Nat → ClassId} {tp : Nat} {A : Nat → Prop} {ad : Nat → Nat} {T_length : Int32} {T_bytes : Nat → Int32} {C_size : Int32} {C_given : Int32} {C_empty : Int32} {C_drafted : Int32} {C_draftedGiven : Int32} {C_block : Nat → Int32} {C_left : Nat → Int32} {C_right : Nat → Int32} {C_pivot : Nat → Int32} {C_positive : Nat → Int32} {C_negative : Nat → Int32} {C_live : Nat → Int32} {C_needed : Nat → Int32} {R_kind : Int32} {R_place : Int32} {R_at : Int32} {R_token : Int32} {R_tokenPlace : Int32} {R_number : Int32} {R_state : Int32} {R_block : Int32} {R_positive : Int32} {R_negative : Int32} {R_left : Int32} {R_right : Int32} {R_pivot : Int32} {L_of : Nat → Int32} {F_cut : Int32} {F_labelledA : Int32} {F_labelledB : Int32} {F_row : Nat → Int64} {A_root : Int32} {A_words : Nat → Int64} {G_size : Int32} {G_variable : Nat → Int32} {G_low : Nat → Int32} {G_high : Nat → Int32} {G_numberOf : Nat → Int32} {G_nodeOf : Nat → Int32} {G_sides : Nat → Int32} {G_waiting : Nat → Int32} {B_table : Nat → Int64} {B_nextTable : Nat → Int64}  {k : (Nat → Int64) → Int32 → (Nat → Int64) → (Nat → Int32) → Int32 → (Nat → Int32) → (Nat → Int32) → (Nat → Int32) → (Nat → Int32) → (Nat → Int32) → (Nat → Int32) → (Nat → Int32) → Prop} {k35 : (Nat → Int32) → Prop} (C0 : CX p s m args meth c b_A_take 5 none R_A "take" D ca tp A) :
    ∀ (n : Nat) (x3 : Int32) (A_known : Nat → Int32) {H : Heap} {locs : List Loc} {ls : Array Slot}, p_A_take_L10 C_needed k35 n x3 A_known → WH D A s (WB ad ca T_length T_bytes C_size C_given C_empty C_drafted C_draftedGiven C_block C_left C_right C_pivot C_positive C_negative C_live C_needed R_kind R_place R_at R_token R_tokenPlace R_number R_state R_block R_positive R_negative R_left R_right R_pivot L_of F_cut F_labelledA F_labelledB F_row A_root A_words A_known G_size G_variable G_low G_high G_numberOf G_nodeOf G_sides G_waiting B_table B_nextTable) H locs → lv_has ls 5 [(0, .ref (ad 17)), (1, .ref (ad 15)), (2, .ref (ad 3)), (3, .int x3)] →
      (∀ (A_known : Nat → Int32) (H : Heap) (locs : List Loc) (ls : Array Slot), k35 A_known → WH D A s (WB ad ca T_length T_bytes C_size C_given C_empty C_drafted C_draftedGiven C_block C_left C_right C_pivot C_positive C_negative C_live C_needed R_kind R_place R_at R_token R_tokenPlace R_number R_state R_block R_positive R_negative R_left R_right R_pivot L_of F_cut F_labelledA F_labelledB F_row A_root A_words A_known G_size G_variable G_low G_high G_numberOf G_nodeOf G_sides G_waiting B_table B_nextTable) H locs → lv_has ls 5 [(0, .ref (ad 17)), (1, .ref (ad 15))] → W p l e rm_A_take s m args below meth c H locs 0 0 (QV D A below args s (fun (u : (Nat → Int64) × Int32 × (Nat → Int64) × (Nat → Int32) × Int32 × (Nat → Int32) × (Nat → Int32) × (Nat → Int32) × (Nat → Int32) × (Nat → Int32) × (Nat → Int32) × (Nat → Int32)) => k u.1 u.2.1 u.2.2.1 u.2.2.2.1 u.2.2.2.2.1 u.2.2.2.2.2.1 u.2.2.2.2.2.2.1 u.2.2.2.2.2.2.2.1 u.2.2.2.2.2.2.2.2.1 u.2.2.2.2.2.2.2.2.2.1 u.2.2.2.2.2.2.2.2.2.2.1 u.2.2.2.2.2.2.2.2.2.2.2) (fun (u : (Nat → Int64) × Int32 × (Nat → Int64) × (Nat → Int32) × Int32 × (Nat → Int32) × (Nat → Int32) × (Nat → Int32) × (Nat → Int32) × (Nat → Int32) × (Nat → Int32) × (Nat → Int32)) => WB ad ca T_length T_bytes C_size C_given C_empty C_drafted C_draftedGiven C_block C_left C_right C_pivot C_positive C_negative C_live C_needed R_kind R_place R_at R_token R_tokenPlace R_number R_state R_block R_positive R_negative R_left R_right R_pivot L_of F_cut F_labelledA F_labelledB u.1 u.2.1 u.2.2.1 u.2.2.2.1 u.2.2.2.2.1 u.2.2.2.2.2.1 u.2.2.2.2.2.2.1 u.2.2.2.2.2.2.2.1 u.2.2.2.2.2.2.2.2.1 u.2.2.2.2.2.2.2.2.2.1 u.2.2.2.2.2.2.2.2.2.2.1 u.2.2.2.2.2.2.2.2.2.2.2 B_table B_nextTable) 0 0) (F0 m 35 ls [])) →
      W p l e rm_A_take s m args below meth c H locs 0 0 (QV D A below args s (fun (u : (Nat → Int64) × Int32 × (Nat → Int64) × (Nat → Int32) × Int32 × (Nat → Int32) × (Nat → Int32) × (Nat → Int32) × (Nat → Int32) × (Nat → Int32) × (Nat → Int32) × (Nat → Int32)) => k u.1 u.2.1 u.2.2.1 u.2.2.2.1 u.2.2.2.2.1 u.2.2.2.2.2.1 u.2.2.2.2.2.2.1 u.2.2.2.2.2.2.2.1 u.2.2.2.2.2.2.2.2.1 u.2.2.2.2.2.2.2.2.2.1 u.2.2.2.2.2.2.2.2.2.2.1 u.2.2.2.2.2.2.2.2.2.2.2) (fun (u : (Nat → Int64) × Int32 × (Nat → Int64) × (Nat → Int32) × Int32 × (Nat → Int32) × (Nat → Int32) × (Nat → Int32) × (Nat → Int32) × (Nat → Int32) × (Nat → Int32) × (Nat → Int32)) => WB ad ca T_length T_bytes C_size C_given C_empty C_drafted C_draftedGiven C_block C_left C_right C_pivot C_positive C_negative C_live C_needed R_kind R_place R_at R_token R_tokenPlace R_number R_state R_block R_positive R_negative R_left R_right R_pivot L_of F_cut F_labelledA F_labelledB u.1 u.2.1 u.2.2.1 u.2.2.2.1 u.2.2.2.2.1 u.2.2.2.2.2.1 u.2.2.2.2.2.2.1 u.2.2.2.2.2.2.2.1 u.2.2.2.2.2.2.2.2.1 u.2.2.2.2.2.2.2.2.2.1 u.2.2.2.2.2.2.2.2.2.2.1 u.2.2.2.2.2.2.2.2.2.2.2 B_table B_nextTable) 0 0) (F0 m 10 ls []) := by
  have hx := C0.1
  have hb := C0.2.1
  intro n
  induction n with
  | zero =>
    intro x3 A_known H locs ls h
    exact False.elim h
  | succ n ih =>
    intro x3 A_known H locs ls h hw hl h35
    unfold p_A_take_L10 at h
    refine lv_iload_n hx hb d_A_take_10 rfl (lv_at hl 3 rfl) ?_
    refine lv_sipush (v := 200) hx hb d_A_take_11 (by decide) ?_
    refine lv_icmp_gt (tgt := 35) hx hb d_A_take_14 (by decide) (fun c_1 => ?_) (fun c_1 => ?_)
    · have h := h.1 c_1
      exact h35 _ _ _ _ h hw (lv_sub hl [0, 1] rfl)
    · have h := h.2 c_1
      refine lv_aload_n hx hb d_A_take_17 rfl (lv_at hl 0 rfl) ?_
      refine x_get C0 hw 17 rfl rfl i_A 1 (by decide) wm_290 rfl rfl d_A_take_18 ?_
      refine lv_iload_n hx hb d_A_take_21 rfl (lv_at hl 3 rfl) ?_
      refine lv_aload_n hx hb d_A_take_22 rfl (lv_at hl 2 rfl) ?_
      refine x_getN C0 hw 3 rfl rfl i_C 7 (by decide) wm_115 rfl rfl d_A_take_23 ?_
      refine lv_iload_n hx hb d_A_take_26 rfl (lv_at hl 3 rfl) ?_
      obtain ⟨hi_2, h⟩ := h
      refine x_zald C0 hw 11 rfl hi_2 d_A_take_27 ?_
      refine x_zast C0 hw 19 rfl hi_2 (ws' := WB ad ca T_length T_bytes C_size C_given C_empty C_drafted C_draftedGiven C_block C_left C_right C_pivot C_positive C_negative C_live C_needed R_kind R_place R_at R_token R_tokenPlace R_number R_state R_block R_positive R_negative R_left R_right R_pivot L_of F_cut F_labelledA F_labelledB F_row A_root A_words (upd A_known x3.toNatClampNeg (vp_nar .boolean (C_needed x3.toNatClampNeg))) G_size G_variable G_low G_high G_numberOf G_nodeOf G_sides G_waiting B_table B_nextTable) rfl d_A_take_28 (fun H locs hw => ?_)
      refine lv_iinc (v := (x3 + 1)) (lv' := [(3, .int (x3 + 1)), (0, .ref (ad 17)), (1, .ref (ad 15)), (2, .ref (ad 3))]) hx hb d_A_take_29 hl (k := 3) rfl rfl (by decide) rfl (fun ls hl => ?_)
      refine lv_goto (tgt := 10) hx hb d_A_take_32 (by decide) ?_
      exact ih _ _ h hw (lv_sub hl [1, 2, 3, 0] rfl) h35
set_option maxHeartbeats 4000000 in
set_option maxRecDepth 100000 in
theorem b_A_take_L51 {p : Program} {l : Launch} {e : Env} {s : State} {m : MethodId} {args : Array Value} {below : List Frame} {meth : Method} {c : Code} {D : va_G} {ca : Nat → ClassId} {tp : Nat} {A : Nat → Prop} {ad : Nat → Nat} {T_length : Int32} {T_bytes : Nat → Int32} {C_size : Int32} {C_given : Int32} {C_empty : Int32} {C_drafted : Int32} {C_draftedGiven : Int32} {C_block : Nat → Int32} {C_left : Nat → Int32} {C_right : Nat → Int32} {C_pivot : Nat → Int32} {C_positive : Nat → Int32} {C_negative : Nat → Int32} {C_live : Nat → Int32} {C_needed : Nat → Int32} {R_kind : Int32} {R_place : Int32} {R_at : Int32} {R_token : Int32} {R_tokenPlace : Int32} {R_number : Int32} {R_state : Int32} {R_block : Int32} {R_positive : Int32} {R_negative : Int32} {R_left : Int32} {R_right : Int32} {R_pivot : Int32} {L_of : Nat → Int32} {F_cut : Int32} {F_labelledA : Int32} {F_labelledB : Int32} {F_row : Nat → Int64} {A_root : Int32} {A_known : Nat → Int32} {G_size : Int32} {G_variable : Nat → Int32} {G_low : Nat → Int32} {G_high : Nat → Int32} {G_numberOf : Nat → Int32} {G_nodeOf : Nat → Int32} {G_sides : Nat → Int32} {G_waiting : Nat → Int32} {B_table : Nat → Int64} {B_nextTable : Nat → Int64} {x3 : Int32} {k : (Nat → Int64) → Int32 → (Nat → Int64) → (Nat → Int32) → Int32 → (Nat → Int32) → (Nat → Int32) → (Nat → Int32) → (Nat → Int32) → (Nat → Int32) → (Nat → Int32) → (Nat → Int32) → Prop} {k85 : (Nat → Int64) → Prop} (C0 : CX p s m args meth c b_A_take 5 none R_A "take" D ca tp A) :
    ∀ (n : Nat) (x4 : Int32) (A_words : Nat → Int64) {H : Heap} {locs : List Loc} {ls : Array Slot}, p_A_take_L51 F_row A_root x3 k85 n x4 A_words → WH D A s (WB ad ca T_length T_bytes C_size C_given C_empty C_drafted C_draftedGiven C_block C_left C_right C_pivot C_positive C_negative C_live C_needed R_kind R_place R_at R_token R_tokenPlace R_number R_state R_block R_positive R_negative R_left R_right R_pivot L_of F_cut F_labelledA F_labelledB F_row A_root A_words A_known G_size G_variable G_low G_high G_numberOf G_nodeOf G_sides G_waiting B_table B_nextTable) H locs → lv_has ls 5 [(0, .ref (ad 17)), (1, .ref (ad 15)), (3, .int x3), (4, .int x4)] →
      (∀ (A_words : Nat → Int64) (H : Heap) (locs : List Loc) (ls : Array Slot), k85 A_words → WH D A s (WB ad ca T_length T_bytes C_size C_given C_empty C_drafted C_draftedGiven C_block C_left C_right C_pivot C_positive C_negative C_live C_needed R_kind R_place R_at R_token R_tokenPlace R_number R_state R_block R_positive R_negative R_left R_right R_pivot L_of F_cut F_labelledA F_labelledB F_row A_root A_words A_known G_size G_variable G_low G_high G_numberOf G_nodeOf G_sides G_waiting B_table B_nextTable) H locs → lv_has ls 5 [(0, .ref (ad 17)), (1, .ref (ad 15)), (3, .int x3)] → W p l e rm_A_take s m args below meth c H locs 0 0 (QV D A below args s (fun (u : (Nat → Int64) × Int32 × (Nat → Int64) × (Nat → Int32) × Int32 × (Nat → Int32) × (Nat → Int32) × (Nat → Int32) × (Nat → Int32) × (Nat → Int32) × (Nat → Int32) × (Nat → Int32)) => k u.1 u.2.1 u.2.2.1 u.2.2.2.1 u.2.2.2.2.1 u.2.2.2.2.2.1 u.2.2.2.2.2.2.1 u.2.2.2.2.2.2.2.1 u.2.2.2.2.2.2.2.2.1 u.2.2.2.2.2.2.2.2.2.1 u.2.2.2.2.2.2.2.2.2.2.1 u.2.2.2.2.2.2.2.2.2.2.2) (fun (u : (Nat → Int64) × Int32 × (Nat → Int64) × (Nat → Int32) × Int32 × (Nat → Int32) × (Nat → Int32) × (Nat → Int32) × (Nat → Int32) × (Nat → Int32) × (Nat → Int32) × (Nat → Int32)) => WB ad ca T_length T_bytes C_size C_given C_empty C_drafted C_draftedGiven C_block C_left C_right C_pivot C_positive C_negative C_live C_needed R_kind R_place R_at R_token R_tokenPlace R_number R_state R_block R_positive R_negative R_left R_right R_pivot L_of F_cut F_labelledA F_labelledB u.1 u.2.1 u.2.2.1 u.2.2.2.1 u.2.2.2.2.1 u.2.2.2.2.2.1 u.2.2.2.2.2.2.1 u.2.2.2.2.2.2.2.1 u.2.2.2.2.2.2.2.2.1 u.2.2.2.2.2.2.2.2.2.1 u.2.2.2.2.2.2.2.2.2.2.1 u.2.2.2.2.2.2.2.2.2.2.2 B_table B_nextTable) 0 0) (F0 m 85 ls [])) →
      W p l e rm_A_take s m args below meth c H locs 0 0 (QV D A below args s (fun (u : (Nat → Int64) × Int32 × (Nat → Int64) × (Nat → Int32) × Int32 × (Nat → Int32) × (Nat → Int32) × (Nat → Int32) × (Nat → Int32) × (Nat → Int32) × (Nat → Int32) × (Nat → Int32)) => k u.1 u.2.1 u.2.2.1 u.2.2.2.1 u.2.2.2.2.1 u.2.2.2.2.2.1 u.2.2.2.2.2.2.1 u.2.2.2.2.2.2.2.1 u.2.2.2.2.2.2.2.2.1 u.2.2.2.2.2.2.2.2.2.1 u.2.2.2.2.2.2.2.2.2.2.1 u.2.2.2.2.2.2.2.2.2.2.2) (fun (u : (Nat → Int64) × Int32 × (Nat → Int64) × (Nat → Int32) × Int32 × (Nat → Int32) × (Nat → Int32) × (Nat → Int32) × (Nat → Int32) × (Nat → Int32) × (Nat → Int32) × (Nat → Int32)) => WB ad ca T_length T_bytes C_size C_given C_empty C_drafted C_draftedGiven C_block C_left C_right C_pivot C_positive C_negative C_live C_needed R_kind R_place R_at R_token R_tokenPlace R_number R_state R_block R_positive R_negative R_left R_right R_pivot L_of F_cut F_labelledA F_labelledB u.1 u.2.1 u.2.2.1 u.2.2.2.1 u.2.2.2.2.1 u.2.2.2.2.2.1 u.2.2.2.2.2.2.1 u.2.2.2.2.2.2.2.1 u.2.2.2.2.2.2.2.2.1 u.2.2.2.2.2.2.2.2.2.1 u.2.2.2.2.2.2.2.2.2.2.1 u.2.2.2.2.2.2.2.2.2.2.2 B_table B_nextTable) 0 0) (F0 m 51 ls []) := by
  have hx := C0.1
  have hb := C0.2.1
  intro n
  induction n with
  | zero =>
    intro x4 A_words H locs ls h
    exact False.elim h
  | succ n ih =>
    intro x4 A_words H locs ls h hw hl h85
    unfold p_A_take_L51 at h
    refine lv_iload hx hb d_A_take_51 (lv_at hl 3 rfl) ?_
    refine lv_aload_n hx hb d_A_take_53 rfl (lv_at hl 0 rfl) ?_
    refine x_get C0 hw 17 rfl rfl i_A 3 (by decide) wm_293 rfl rfl d_A_take_54 ?_
    refine lv_icmp_gt (tgt := 85) hx hb d_A_take_57 (by decide) (fun c_7 => ?_) (fun c_7 => ?_)
    · have h := h.1 c_7
      exact h85 _ _ _ _ h hw (lv_sub hl [0, 1, 2] rfl)
    · have h := h.2 c_7
      refine lv_aload_n hx hb d_A_take_60 rfl (lv_at hl 0 rfl) ?_
      refine x_get C0 hw 17 rfl rfl i_A 0 (by decide) wm_289 rfl rfl d_A_take_61 ?_
      refine lv_iload hx hb d_A_take_64 (lv_at hl 3 rfl) ?_
      refine lv_bipush (v := 16) hx hb d_A_take_66 (by decide) ?_
      refine lv_imul hx hb d_A_take_68 ?_
      refine lv_iload_n hx hb d_A_take_69 rfl (lv_at hl 2 rfl) ?_
      refine lv_iadd hx hb d_A_take_70 ?_
      refine lv_aload_n hx hb d_A_take_71 rfl (lv_at hl 1 rfl) ?_
      refine x_getN C0 hw 15 rfl rfl i_F 2 (by decide) wm_233 rfl rfl d_A_take_72 ?_
      refine lv_iload hx hb d_A_take_75 (lv_at hl 3 rfl) ?_
      obtain ⟨hi_8, h⟩ := h
      refine x_lald C0 hw 16 rfl hi_8 d_A_take_77 ?_
      obtain ⟨hi_9, h⟩ := h
      refine x_last C0 hw 18 rfl hi_9 (ws' := WB ad ca T_length T_bytes C_size C_given C_empty C_drafted C_draftedGiven C_block C_left C_right C_pivot C_positive C_negative C_live C_needed R_kind R_place R_at R_token R_tokenPlace R_number R_state R_block R_positive R_negative R_left R_right R_pivot L_of F_cut F_labelledA F_labelledB F_row A_root (vp_updL A_words ((x4 * (16 : Int32)) + x3).toNatClampNeg (F_row x4.toNatClampNeg)) A_known G_size G_variable G_low G_high G_numberOf G_nodeOf G_sides G_waiting B_table B_nextTable) rfl d_A_take_78 (fun H locs hw => ?_)
      refine lv_iinc (v := (x4 + 1)) (lv' := [(4, .int (x4 + 1)), (0, .ref (ad 17)), (1, .ref (ad 15)), (3, .int x3)]) hx hb d_A_take_79 hl (k := 3) rfl rfl (by decide) rfl (fun ls hl => ?_)
      refine lv_goto (tgt := 51) hx hb d_A_take_82 (by decide) ?_
      exact ih _ _ h hw (lv_sub hl [1, 2, 3, 0] rfl) h85
set_option maxHeartbeats 4000000 in
set_option maxRecDepth 100000 in
theorem b_A_take_L37 {p : Program} {l : Launch} {e : Env} {s : State} {m : MethodId} {args : Array Value} {below : List Frame} {meth : Method} {c : Code} {D : va_G} {ca : Nat → ClassId} {tp : Nat} {A : Nat → Prop} {ad : Nat → Nat} {T_length : Int32} {T_bytes : Nat → Int32} {C_size : Int32} {C_given : Int32} {C_empty : Int32} {C_drafted : Int32} {C_draftedGiven : Int32} {C_block : Nat → Int32} {C_left : Nat → Int32} {C_right : Nat → Int32} {C_pivot : Nat → Int32} {C_positive : Nat → Int32} {C_negative : Nat → Int32} {C_live : Nat → Int32} {C_needed : Nat → Int32} {R_kind : Int32} {R_place : Int32} {R_at : Int32} {R_token : Int32} {R_tokenPlace : Int32} {R_number : Int32} {R_state : Int32} {R_block : Int32} {R_positive : Int32} {R_negative : Int32} {R_left : Int32} {R_right : Int32} {R_pivot : Int32} {L_of : Nat → Int32} {F_cut : Int32} {F_labelledA : Int32} {F_labelledB : Int32} {A_root : Int32} {A_known : Nat → Int32} {G_size : Int32} {G_variable : Nat → Int32} {G_low : Nat → Int32} {G_high : Nat → Int32} {G_numberOf : Nat → Int32} {G_nodeOf : Nat → Int32} {G_sides : Nat → Int32} {G_waiting : Nat → Int32} {B_table : Nat → Int64} {B_nextTable : Nat → Int64}  {k : (Nat → Int64) → Int32 → (Nat → Int64) → (Nat → Int32) → Int32 → (Nat → Int32) → (Nat → Int32) → (Nat → Int32) → (Nat → Int32) → (Nat → Int32) → (Nat → Int32) → (Nat → Int32) → Prop} {k91 : (Nat → Int64) → (Nat → Int64) → Prop} (C0 : CX p s m args meth c b_A_take 5 none R_A "take" D ca tp A) :
    ∀ (n : Nat) (x3 : Int32) (F_row : Nat → Int64) (A_words : Nat → Int64) {H : Heap} {locs : List Loc} {ls : Array Slot}, p_A_take_L37 C_empty C_block C_left C_right C_pivot C_positive C_negative C_needed F_cut F_labelledA F_labelledB A_root k91 n x3 F_row A_words → WH D A s (WB ad ca T_length T_bytes C_size C_given C_empty C_drafted C_draftedGiven C_block C_left C_right C_pivot C_positive C_negative C_live C_needed R_kind R_place R_at R_token R_tokenPlace R_number R_state R_block R_positive R_negative R_left R_right R_pivot L_of F_cut F_labelledA F_labelledB F_row A_root A_words A_known G_size G_variable G_low G_high G_numberOf G_nodeOf G_sides G_waiting B_table B_nextTable) H locs → lv_has ls 5 [(0, .ref (ad 17)), (1, .ref (ad 15)), (3, .int x3)] →
      (∀ (F_row : Nat → Int64) (A_words : Nat → Int64) (H : Heap) (locs : List Loc) (ls : Array Slot), k91 F_row A_words → WH D A s (WB ad ca T_length T_bytes C_size C_given C_empty C_drafted C_draftedGiven C_block C_left C_right C_pivot C_positive C_negative C_live C_needed R_kind R_place R_at R_token R_tokenPlace R_number R_state R_block R_positive R_negative R_left R_right R_pivot L_of F_cut F_labelledA F_labelledB F_row A_root A_words A_known G_size G_variable G_low G_high G_numberOf G_nodeOf G_sides G_waiting B_table B_nextTable) H locs → lv_has ls 5 [(0, .ref (ad 17))] → W p l e rm_A_take s m args below meth c H locs 0 0 (QV D A below args s (fun (u : (Nat → Int64) × Int32 × (Nat → Int64) × (Nat → Int32) × Int32 × (Nat → Int32) × (Nat → Int32) × (Nat → Int32) × (Nat → Int32) × (Nat → Int32) × (Nat → Int32) × (Nat → Int32)) => k u.1 u.2.1 u.2.2.1 u.2.2.2.1 u.2.2.2.2.1 u.2.2.2.2.2.1 u.2.2.2.2.2.2.1 u.2.2.2.2.2.2.2.1 u.2.2.2.2.2.2.2.2.1 u.2.2.2.2.2.2.2.2.2.1 u.2.2.2.2.2.2.2.2.2.2.1 u.2.2.2.2.2.2.2.2.2.2.2) (fun (u : (Nat → Int64) × Int32 × (Nat → Int64) × (Nat → Int32) × Int32 × (Nat → Int32) × (Nat → Int32) × (Nat → Int32) × (Nat → Int32) × (Nat → Int32) × (Nat → Int32) × (Nat → Int32)) => WB ad ca T_length T_bytes C_size C_given C_empty C_drafted C_draftedGiven C_block C_left C_right C_pivot C_positive C_negative C_live C_needed R_kind R_place R_at R_token R_tokenPlace R_number R_state R_block R_positive R_negative R_left R_right R_pivot L_of F_cut F_labelledA F_labelledB u.1 u.2.1 u.2.2.1 u.2.2.2.1 u.2.2.2.2.1 u.2.2.2.2.2.1 u.2.2.2.2.2.2.1 u.2.2.2.2.2.2.2.1 u.2.2.2.2.2.2.2.2.1 u.2.2.2.2.2.2.2.2.2.1 u.2.2.2.2.2.2.2.2.2.2.1 u.2.2.2.2.2.2.2.2.2.2.2 B_table B_nextTable) 0 0) (F0 m 91 ls [])) →
      W p l e rm_A_take s m args below meth c H locs 0 0 (QV D A below args s (fun (u : (Nat → Int64) × Int32 × (Nat → Int64) × (Nat → Int32) × Int32 × (Nat → Int32) × (Nat → Int32) × (Nat → Int32) × (Nat → Int32) × (Nat → Int32) × (Nat → Int32) × (Nat → Int32)) => k u.1 u.2.1 u.2.2.1 u.2.2.2.1 u.2.2.2.2.1 u.2.2.2.2.2.1 u.2.2.2.2.2.2.1 u.2.2.2.2.2.2.2.1 u.2.2.2.2.2.2.2.2.1 u.2.2.2.2.2.2.2.2.2.1 u.2.2.2.2.2.2.2.2.2.2.1 u.2.2.2.2.2.2.2.2.2.2.2) (fun (u : (Nat → Int64) × Int32 × (Nat → Int64) × (Nat → Int32) × Int32 × (Nat → Int32) × (Nat → Int32) × (Nat → Int32) × (Nat → Int32) × (Nat → Int32) × (Nat → Int32) × (Nat → Int32)) => WB ad ca T_length T_bytes C_size C_given C_empty C_drafted C_draftedGiven C_block C_left C_right C_pivot C_positive C_negative C_live C_needed R_kind R_place R_at R_token R_tokenPlace R_number R_state R_block R_positive R_negative R_left R_right R_pivot L_of F_cut F_labelledA F_labelledB u.1 u.2.1 u.2.2.1 u.2.2.2.1 u.2.2.2.2.1 u.2.2.2.2.2.1 u.2.2.2.2.2.2.1 u.2.2.2.2.2.2.2.1 u.2.2.2.2.2.2.2.2.1 u.2.2.2.2.2.2.2.2.2.1 u.2.2.2.2.2.2.2.2.2.2.1 u.2.2.2.2.2.2.2.2.2.2.2 B_table B_nextTable) 0 0) (F0 m 37 ls []) := by
  have hx := C0.1
  have hb := C0.2.1
  intro n
  induction n with
  | zero =>
    intro x3 F_row A_words H locs ls h
    exact False.elim h
  | succ n ih =>
    intro x3 F_row A_words H locs ls h hw hl h91
    unfold p_A_take_L37 at h
    refine lv_iload_n hx hb d_A_take_37 rfl (lv_at hl 2 rfl) ?_
    refine lv_bipush (v := 16) hx hb d_A_take_38 (by decide) ?_
    refine lv_icmp_ge (tgt := 91) hx hb d_A_take_40 (by decide) (fun c_4 => ?_) (fun c_4 => ?_)
    · have h := h.1 c_4
      exact h91 _ _ _ _ _ h hw (lv_sub hl [0] rfl)
    · have h := h.2 c_4
      refine lv_aload_n hx hb d_A_take_43 rfl (lv_at hl 1 rfl) ?_
      refine lv_iload_n hx hb d_A_take_44 rfl (lv_at hl 2 rfl) ?_
      refine x_callVv C0 hw hl (c_F_workOut h) g_F_workOut wm_590 ⟨wm_592, wm_591⟩ 15 rfl rfl rfl (As := [.int x3]) (rest := []) rfl rfl (Nat.le_of_ble_eq_true rfl) ⟨rfl, rfl⟩ ⟨Nat.le_of_ble_eq_true rfl, Nat.le_of_ble_eq_true rfl⟩ ⟨Nat.le_of_ble_eq_true rfl, Nat.le_of_ble_eq_true rfl⟩ d_A_take_45 (fun u H locs h hw => ?_)
      obtain ⟨F_row_5, rfl⟩ : ∃ z, z = u := ⟨_, rfl⟩
      refine lv_iconst (v := 1) hx hb d_A_take_48 (by decide) ?_
      refine lv_istore (lv' := [(4, .int (1 : Int32)), (0, .ref (ad 17)), (1, .ref (ad 15)), (3, .int x3)]) hx hb d_A_take_49 hl (by decide) rfl (fun ls hl => ?_)
      obtain ⟨j_11, h⟩ := h
      refine b_A_take_L51 C0 _ _ _ h hw (lv_sub hl [1, 2, 3, 0] rfl) (fun A_words_10 H locs ls h hw hl => ?_)
      refine lv_iinc (v := (x3 + 1)) (lv' := [(3, .int (x3 + 1)), (0, .ref (ad 17)), (1, .ref (ad 15))]) hx hb d_A_take_85 hl (k := 2) rfl rfl (by decide) rfl (fun ls hl => ?_)
      refine lv_goto (tgt := 37) hx hb d_A_take_88 (by decide) ?_
      exact ih _ _ _ h hw (lv_sub hl [1, 2, 0] rfl) h91
set_option maxHeartbeats 4000000 in
set_option maxRecDepth 100000 in
theorem c_A_take {l : Launch} {D : va_G} {ca : Nat → ClassId} {tp : Nat} {ad : Nat → Nat} {T_length : Int32} {T_bytes : Nat → Int32} {C_size : Int32} {C_given : Int32} {C_empty : Int32} {C_drafted : Int32} {C_draftedGiven : Int32} {C_block : Nat → Int32} {C_left : Nat → Int32} {C_right : Nat → Int32} {C_pivot : Nat → Int32} {C_positive : Nat → Int32} {C_negative : Nat → Int32} {C_live : Nat → Int32} {C_needed : Nat → Int32} {R_kind : Int32} {R_place : Int32} {R_at : Int32} {R_token : Int32} {R_tokenPlace : Int32} {R_number : Int32} {R_state : Int32} {R_block : Int32} {R_positive : Int32} {R_negative : Int32} {R_left : Int32} {R_right : Int32} {R_pivot : Int32} {L_of : Nat → Int32} {F_cut : Int32} {F_labelledA : Int32} {F_labelledB : Int32} {F_row : Nat → Int64} {A_root : Int32} {A_words : Nat → Int64} {A_known : Nat → Int32} {G_size : Int32} {G_variable : Nat → Int32} {G_low : Nat → Int32} {G_high : Nat → Int32} {G_numberOf : Nat → Int32} {G_nodeOf : Nat → Int32} {G_sides : Nat → Int32} {G_waiting : Nat → Int32} {B_table : Nat → Int64} {B_nextTable : Nat → Int64}  {k : (Nat → Int64) → Int32 → (Nat → Int64) → (Nat → Int32) → Int32 → (Nat → Int32) → (Nat → Int32) → (Nat → Int32) → (Nat → Int32) → (Nat → Int32) → (Nat → Int32) → (Nat → Int32) → Prop} (h : p_A_take C_empty C_block C_left C_right C_pivot C_positive C_negative C_needed F_cut F_labelledA F_labelledB F_row A_words A_known G_variable G_low G_high G_numberOf G_nodeOf G_sides G_waiting k) :
    MTv l y_A_take b_A_take 5 none rm_A_take D ca tp [.ref (ad 17), .ref (ad 15), .ref (ad 3)] (WB ad ca T_length T_bytes C_size C_given C_empty C_drafted C_draftedGiven C_block C_left C_right C_pivot C_positive C_negative C_live C_needed R_kind R_place R_at R_token R_tokenPlace R_number R_state R_block R_positive R_negative R_left R_right R_pivot L_of F_cut F_labelledA F_labelledB F_row A_root A_words A_known G_size G_variable G_low G_high G_numberOf G_nodeOf G_sides G_waiting B_table B_nextTable)
      (fun (u : (Nat → Int64) × Int32 × (Nat → Int64) × (Nat → Int32) × Int32 × (Nat → Int32) × (Nat → Int32) × (Nat → Int32) × (Nat → Int32) × (Nat → Int32) × (Nat → Int32) × (Nat → Int32)) => k u.1 u.2.1 u.2.2.1 u.2.2.2.1 u.2.2.2.2.1 u.2.2.2.2.2.1 u.2.2.2.2.2.2.1 u.2.2.2.2.2.2.2.1 u.2.2.2.2.2.2.2.2.1 u.2.2.2.2.2.2.2.2.2.1 u.2.2.2.2.2.2.2.2.2.2.1 u.2.2.2.2.2.2.2.2.2.2.2)
      (fun (u : (Nat → Int64) × Int32 × (Nat → Int64) × (Nat → Int32) × Int32 × (Nat → Int32) × (Nat → Int32) × (Nat → Int32) × (Nat → Int32) × (Nat → Int32) × (Nat → Int32) × (Nat → Int32)) => WB ad ca T_length T_bytes C_size C_given C_empty C_drafted C_draftedGiven C_block C_left C_right C_pivot C_positive C_negative C_live C_needed R_kind R_place R_at R_token R_tokenPlace R_number R_state R_block R_positive R_negative R_left R_right R_pivot L_of F_cut F_labelledA F_labelledB u.1 u.2.1 u.2.2.1 u.2.2.2.1 u.2.2.2.2.1 u.2.2.2.2.2.1 u.2.2.2.2.2.2.1 u.2.2.2.2.2.2.2.1 u.2.2.2.2.2.2.2.2.1 u.2.2.2.2.2.2.2.2.2.1 u.2.2.2.2.2.2.2.2.2.2.1 u.2.2.2.2.2.2.2.2.2.2.2 B_table B_nextTable) 0 0 := by
  refine x_entryv (own := R_A) (nm := "take") (by decide) rfl rfl (Nat.le_of_ble_eq_true rfl) (fun p e s m below meth c A ls C0 hw hl => ?_)
  have hx := C0.1
  have hb := C0.2.1
  have hl : lv_has ls 5 [(0, .ref (ad 17)), (1, .ref (ad 15)), (2, .ref (ad 3))] := hl
  unfold p_A_take at h
  refine lv_aload_n hx hb d_A_take_0 rfl (lv_at hl 0 rfl) ?_
  refine lv_aload_n hx hb d_A_take_1 rfl (lv_at hl 2 rfl) ?_
  refine x_getN C0 hw 3 rfl rfl i_C 10 (by decide) wm_122 rfl rfl d_A_take_2 ?_
  refine x_put C0 hw 17 rfl rfl i_A tk_A n_A 3 (by decide) wm_293 rfl rfl rfl rfl (Nat.le_of_ble_eq_true rfl) (ws' := WB ad ca T_length T_bytes C_size C_given C_empty C_drafted C_draftedGiven C_block C_left C_right C_pivot C_positive C_negative C_live C_needed R_kind R_place R_at R_token R_tokenPlace R_number R_state R_block R_positive R_negative R_left R_right R_pivot L_of F_cut F_labelledA F_labelledB F_row C_empty A_words A_known G_size G_variable G_low G_high G_numberOf G_nodeOf G_sides G_waiting B_table B_nextTable) rfl d_A_take_5 (fun H locs hw => ?_)
  refine lv_iconst (v := 1) hx hb d_A_take_8 (by decide) ?_
  refine lv_istore_n (lv' := [(3, .int (1 : Int32)), (0, .ref (ad 17)), (1, .ref (ad 15)), (2, .ref (ad 3))]) hx hb d_A_take_9 rfl hl (by decide) rfl (fun ls hl => ?_)
  obtain ⟨j_24, h⟩ := h
  refine b_A_take_L10 C0 _ _ _ h hw (lv_sub hl [1, 2, 3, 0] rfl) (fun A_known_3 H locs ls h hw hl => ?_)
  refine lv_iconst (v := 0) hx hb d_A_take_35 (by decide) ?_
  refine lv_istore_n (lv' := [(3, .int (0 : Int32)), (0, .ref (ad 17)), (1, .ref (ad 15))]) hx hb d_A_take_36 rfl hl (by decide) rfl (fun ls hl => ?_)
  obtain ⟨j_23, h⟩ := h
  refine b_A_take_L37 C0 _ _ _ _ h hw (lv_sub hl [1, 2, 0] rfl) (fun F_row_12 A_words_13 H locs ls h hw hl => ?_)
  refine lv_aload_n hx hb d_A_take_91 rfl (lv_at hl 0 rfl) ?_
  refine x_get C0 hw 17 rfl rfl i_A 2 (by decide) wm_291 rfl rfl d_A_take_92 ?_
  refine lv_aload_n hx hb d_A_take_95 rfl (lv_at hl 0 rfl) ?_
  refine x_get C0 hw 17 rfl rfl i_A 0 (by decide) wm_289 rfl rfl d_A_take_96 ?_
  refine lv_aload_n hx hb d_A_take_99 rfl (lv_at hl 0 rfl) ?_
  refine x_get C0 hw 17 rfl rfl i_A 3 (by decide) wm_293 rfl rfl d_A_take_100 ?_
  refine lv_bipush (v := 16) hx hb d_A_take_103 (by decide) ?_
  refine lv_imul hx hb d_A_take_105 ?_
  refine x_callVv C0 hw hl (c_G_build h) g_G_build wm_615 ⟨wm_617, wm_616⟩ 20 rfl rfl rfl (As := [.ref (ad 18), .int (C_empty * (16 : Int32))]) (rest := []) rfl rfl (Nat.le_of_ble_eq_true rfl) ⟨rfl, rfl⟩ ⟨Nat.le_of_ble_eq_true rfl, Nat.le_of_ble_eq_true rfl⟩ ⟨Nat.le_of_ble_eq_true rfl, Nat.le_of_ble_eq_true rfl⟩ d_A_take_106 (fun u H locs h hw => ?_)
  obtain ⟨G_size_14, G_variable_15, G_low_16, G_high_17, G_numberOf_18, G_nodeOf_19, G_sides_20, G_waiting_21⟩ := u
  exact x_vret C0 hw (F_row_12, C_empty, A_words_13, A_known_3, G_size_14, G_variable_15, G_low_16, G_high_17, G_numberOf_18, G_nodeOf_19, G_sides_20, G_waiting_21) h rfl d_A_take_109

theorem g_M_side : GY y_M_side b_M_side 12 (some .long) 3 := ⟨wm_959, wm_62, by decide +kernel, by decide +kernel, by decide +kernel⟩
def p_M_side_J102 (k : Int64 → Prop) (x3 : Int32) (x7 : Int32) (t0 : Int64) : Prop :=
  ((x3 = 0 → (k (t0 ||| (J_lshl t0 x7)))) ∧ (¬ x3 = 0 → (k (t0 ||| (J_lushr t0 x7)))))
def p_M_side (M_node : Nat → Int64) (M_nodeVariable : Nat → Int32) (x1 : Int32) (x2 : Int32) (x3 : Int32) (k : Int64 → Prop) : Prop :=
  (vp_in x1 300 ∧ (((M_nodeVariable x1.toNatClampNeg) ≤ (6 : Int32) → (p_M_word (M_nodeVariable x1.toNatClampNeg) (0 : Int32) (fun (r_3 : Int64) => (∀ v7_4 : Int32, v7_4 = ((1 : Int32) <<< (((M_nodeVariable x1.toNatClampNeg) - (1 : Int32)) &&& 31)) → (vp_in (((16 : Int32) * x1) + x2) 4800 ∧ (∀ v8_6 : Int64, v8_6 = (M_node (((16 : Int32) * x1) + x2).toNatClampNeg) → ((x3 = 0 → (p_M_side_J102 k x3 v7_4 (v8_6 &&& (r_3 ^^^ (-1 : Int64))))) ∧ (¬ x3 = 0 → (p_M_side_J102 k x3 v7_4 (v8_6 &&& r_3)))))))))) ∧ (¬ (M_nodeVariable x1.toNatClampNeg) ≤ (6 : Int32) → (∀ v5_9 : Int32, v5_9 = ((1 : Int32) <<< (((M_nodeVariable x1.toNatClampNeg) - (7 : Int32)) &&& 31)) → ((x3 = 0 → (vp_in (((16 : Int32) * x1) + (x2 &&& (v5_9 ^^^ (-1 : Int32)))) 4800 ∧ (k (M_node (((16 : Int32) * x1) + (x2 &&& (v5_9 ^^^ (-1 : Int32)))).toNatClampNeg)))) ∧ (¬ x3 = 0 → (vp_in (((16 : Int32) * x1) + (x2 ||| v5_9)) 4800 ∧ (k (M_node (((16 : Int32) * x1) + (x2 ||| v5_9)).toNatClampNeg)))))))))
abbrev rm_M_side : Room := { frames := 1, cells := 0, slots := 0, locals := 21 }
set_option maxHeartbeats 4000000 in
set_option maxRecDepth 100000 in
theorem b_M_side_J102 {p : Program} {l : Launch} {e : Env} {s : State} {m : MethodId} {args : Array Value} {below : List Frame} {meth : Method} {c : Code} {D : va_G} {ca : Nat → ClassId} {tp : Nat} {A : Nat → Prop} {am : Nat → Nat} {M_clauses : Int32} {M_given : Int32} {M_end : Int32} {M_taped : Int32} {M_size : Int32} {M_at : Int32} {M_to : Int32} {M_sort : Int32} {M_worth : Int32} {M_faultKind : Int32} {M_faultPlace : Int32} {M_isTold : Int32} {M_nodes : Int32} {M_plain : Nat → Int32} {M_minus : Nat → Int32} {M_block : Nat → Int32} {M_left : Nat → Int32} {M_right : Nat → Int32} {M_pivot : Nat → Int32} {M_live : Nat → Int32} {M_needed : Nat → Int32} {M_label : Nat → Int32} {M_tape : Nat → Int32} {M_of : Nat → Int64} {M_kept : Nat → Int64} {M_had : Nat → Int32} {M_told : Nat → Int64} {M_first : Nat → Int64} {M_second : Nat → Int64} {M_node : Nat → Int64} {M_nodeVariable : Nat → Int32} {M_nodeLow : Nat → Int32} {M_nodeHigh : Nat → Int32} {M_wait : Nat → Int32}  {k : Int64 → Prop}  (C0 : CX p s m args meth c b_M_side 12 (some .long) R_M "side" D ca tp A) :
    ∀ (x3 : Int32) (x7 : Int32) (t0 : Int64) {H : Heap} {locs : List Loc} {ls : Array Slot}, p_M_side_J102 k x3 x7 t0 → WH D A s (WM am ca M_clauses M_given M_end M_taped M_size M_at M_to M_sort M_worth M_faultKind M_faultPlace M_isTold M_nodes M_plain M_minus M_block M_left M_right M_pivot M_live M_needed M_label M_tape M_of M_kept M_had M_told M_first M_second M_node M_nodeVariable M_nodeLow M_nodeHigh M_wait) H locs → lv_has ls 12 [(3, .int x3), (7, .int x7)] →
      W p l e rm_M_side s m args below meth c H locs 0 0 (QL D A below args s (fun r (_ : Unit) => k r) (fun (_ : Unit) => WM am ca M_clauses M_given M_end M_taped M_size M_at M_to M_sort M_worth M_faultKind M_faultPlace M_isTold M_nodes M_plain M_minus M_block M_left M_right M_pivot M_live M_needed M_label M_tape M_of M_kept M_had M_told M_first M_second M_node M_nodeVariable M_nodeLow M_nodeHigh M_wait) 0 0) (F0 m 102 ls [.long t0]) := by
  have hx := C0.1
  have hb := C0.2.1
  intro x3 x7 t0 H locs ls h hw hl
  unfold p_M_side_J102 at h
  refine lv_lstore (lv' := [(10, .long t0), (3, .int x3), (7, .int x7)]) hx hb d_M_side_102 hl (by decide) rfl (fun ls hl => ?_)
  refine lv_iload_n hx hb d_M_side_104 rfl (lv_at hl 1 rfl) ?_
  refine lv_if_eq (tgt := 119) hx hb d_M_side_105 (by decide) (fun c_8 => ?_) (fun c_8 => ?_)
  · have h := h.1 c_8
    refine lv_lload hx hb d_M_side_119 (lv_at hl 0 rfl) ?_
    refine lv_lload hx hb d_M_side_121 (lv_at hl 0 rfl) ?_
    refine lv_iload hx hb d_M_side_123 (lv_at hl 2 rfl) ?_
    refine lv_lshl (v := (J_lshl t0 x7)) hx hb d_M_side_125 rfl ?_
    refine lv_lor hx hb d_M_side_126 ?_
    exact x_lret C0 hw () h rfl d_M_side_127
  · have h := h.2 c_8
    refine lv_lload hx hb d_M_side_108 (lv_at hl 0 rfl) ?_
    refine lv_lload hx hb d_M_side_110 (lv_at hl 0 rfl) ?_
    refine lv_iload hx hb d_M_side_112 (lv_at hl 2 rfl) ?_
    refine lv_lushr (v := (J_lushr t0 x7)) hx hb d_M_side_114 rfl ?_
    refine lv_lor hx hb d_M_side_115 ?_
    refine lv_goto (tgt := 127) hx hb d_M_side_116 (by decide) ?_
    exact x_lret C0 hw () h rfl d_M_side_127
set_option maxHeartbeats 4000000 in
set_option maxRecDepth 100000 in
theorem c_M_side {l : Launch} {D : va_G} {ca : Nat → ClassId} {tp : Nat} {am : Nat → Nat} {M_clauses : Int32} {M_given : Int32} {M_end : Int32} {M_taped : Int32} {M_size : Int32} {M_at : Int32} {M_to : Int32} {M_sort : Int32} {M_worth : Int32} {M_faultKind : Int32} {M_faultPlace : Int32} {M_isTold : Int32} {M_nodes : Int32} {M_plain : Nat → Int32} {M_minus : Nat → Int32} {M_block : Nat → Int32} {M_left : Nat → Int32} {M_right : Nat → Int32} {M_pivot : Nat → Int32} {M_live : Nat → Int32} {M_needed : Nat → Int32} {M_label : Nat → Int32} {M_tape : Nat → Int32} {M_of : Nat → Int64} {M_kept : Nat → Int64} {M_had : Nat → Int32} {M_told : Nat → Int64} {M_first : Nat → Int64} {M_second : Nat → Int64} {M_node : Nat → Int64} {M_nodeVariable : Nat → Int32} {M_nodeLow : Nat → Int32} {M_nodeHigh : Nat → Int32} {M_wait : Nat → Int32} {x1 : Int32} {x2 : Int32} {x3 : Int32} {k : Int64 → Prop} (h : p_M_side M_node M_nodeVariable x1 x2 x3 k) :
    MTl l y_M_side b_M_side 12 (some .long) rm_M_side D ca tp [.ref (am 0), .int x1, .int x2, .int x3] (WM am ca M_clauses M_given M_end M_taped M_size M_at M_to M_sort M_worth M_faultKind M_faultPlace M_isTold M_nodes M_plain M_minus M_block M_left M_right M_pivot M_live M_needed M_label M_tape M_of M_kept M_had M_told M_first M_second M_node M_nodeVariable M_nodeLow M_nodeHigh M_wait)
      (fun r (_ : Unit) => k r)
      (fun (_ : Unit) => WM am ca M_clauses M_given M_end M_taped M_size M_at M_to M_sort M_worth M_faultKind M_faultPlace M_isTold M_nodes M_plain M_minus M_block M_left M_right M_pivot M_live M_needed M_label M_tape M_of M_kept M_had M_told M_first M_second M_node M_nodeVariable M_nodeLow M_nodeHigh M_wait) 0 0 := by
  refine x_entryl (own := R_M) (nm := "side") (by decide) rfl rfl (Nat.le_of_ble_eq_true rfl) (fun p e s m below meth c A ls C0 hw hl => ?_)
  have hx := C0.1
  have hb := C0.2.1
  have hl : lv_has ls 12 [(0, .ref (am 0)), (1, .int x1), (2, .int x2), (3, .int x3)] := hl
  unfold p_M_side at h
  refine lv_aload_n hx hb d_M_side_0 rfl (lv_at hl 0 rfl) ?_
  refine x_get C0 hw 0 rfl rfl i_M 29 (by decide) wm_754 rfl rfl d_M_side_1 ?_
  refine lv_iload_n hx hb d_M_side_4 rfl (lv_at hl 1 rfl) ?_
  obtain ⟨hi_1, h⟩ := h
  refine x_iald C0 hw 18 rfl hi_1 d_M_side_5 ?_
  refine lv_istore (lv' := [(4, .int (M_nodeVariable x1.toNatClampNeg)), (0, .ref (am 0)), (1, .int x1), (2, .int x2), (3, .int x3)]) hx hb d_M_side_6 hl (by decide) rfl (fun ls hl => ?_)
  refine lv_iload hx hb d_M_side_8 (lv_at hl 0 rfl) ?_
  refine lv_bipush (v := 6) hx hb d_M_side_10 (by decide) ?_
  refine lv_icmp_le (tgt := 52) hx hb d_M_side_12 (by decide) (fun c_2 => ?_) (fun c_2 => ?_)
  · have h := h.1 c_2
    refine lv_iload hx hb d_M_side_52 (lv_at hl 0 rfl) ?_
    refine lv_iconst (v := 0) hx hb d_M_side_54 (by decide) ?_
    refine x_callSl C0 hw hl (c_M_word h) g_M_word wm_934 wm_935 (As := [.int (M_nodeVariable x1.toNatClampNeg), .int (0 : Int32)]) (rest := []) rfl rfl (Nat.le_of_ble_eq_true rfl) ⟨rfl, rfl⟩ ⟨Nat.le_of_ble_eq_true rfl, Nat.le_of_ble_eq_true rfl⟩ ⟨Nat.le_of_ble_eq_true rfl, Nat.le_of_ble_eq_true rfl⟩ d_M_side_55 (fun r_3 u H locs h hw => ?_)
    refine lv_lstore (lv' := [(5, .long r_3), (4, .int (M_nodeVariable x1.toNatClampNeg)), (0, .ref (am 0)), (1, .int x1), (2, .int x2), (3, .int x3)]) hx hb d_M_side_58 hl (by decide) rfl (fun ls hl => ?_)
    refine lv_iconst (v := 1) hx hb d_M_side_60 (by decide) ?_
    refine lv_iload hx hb d_M_side_61 (lv_at hl 1 rfl) ?_
    refine lv_iconst (v := 1) hx hb d_M_side_63 (by decide) ?_
    refine lv_isub hx hb d_M_side_64 ?_
    refine lv_ishl hx hb d_M_side_65 ?_
    refine lv_topi (fun v7_4 e_v7_4 => ?_)
    have h := h v7_4 e_v7_4
    refine lv_istore (lv' := [(7, .int v7_4), (5, .long r_3), (4, .int (M_nodeVariable x1.toNatClampNeg)), (0, .ref (am 0)), (1, .int x1), (2, .int x2), (3, .int x3)]) hx hb d_M_side_66 hl (by decide) rfl (fun ls hl => ?_)
    refine lv_aload_n hx hb d_M_side_68 rfl (lv_at hl 3 rfl) ?_
    refine x_get C0 hw 0 rfl rfl i_M 28 (by decide) wm_753 rfl rfl d_M_side_69 ?_
    refine lv_bipush (v := 16) hx hb d_M_side_72 (by decide) ?_
    refine lv_iload_n hx hb d_M_side_74 rfl (lv_at hl 4 rfl) ?_
    refine lv_imul hx hb d_M_side_75 ?_
    refine lv_iload_n hx hb d_M_side_76 rfl (lv_at hl 5 rfl) ?_
    refine lv_iadd hx hb d_M_side_77 ?_
    obtain ⟨hi_5, h⟩ := h
    refine x_lald C0 hw 17 rfl hi_5 d_M_side_78 ?_
    refine lv_topl (fun v8_6 e_v8_6 => ?_)
    have h := h v8_6 e_v8_6
    refine lv_lstore (lv' := [(8, .long v8_6), (7, .int v7_4), (5, .long r_3), (4, .int (M_nodeVariable x1.toNatClampNeg)), (0, .ref (am 0)), (1, .int x1), (2, .int x2), (3, .int x3)]) hx hb d_M_side_79 hl (by decide) rfl (fun ls hl => ?_)
    refine lv_iload_n hx hb d_M_side_81 rfl (lv_at hl 7 rfl) ?_
    refine lv_if_eq (tgt := 93) hx hb d_M_side_82 (by decide) (fun c_7 => ?_) (fun c_7 => ?_)
    · have h := h.1 c_7
      refine lv_lload hx hb d_M_side_93 (lv_at hl 0 rfl) ?_
      refine lv_lload hx hb d_M_side_95 (lv_at hl 2 rfl) ?_
      refine x_ldc2 C0 wm_943 d_M_side_97 ?_
      refine lv_lxor hx hb d_M_side_100 ?_
      refine lv_land hx hb d_M_side_101 ?_
      refine b_M_side_J102 C0 _ _ _ h hw (lv_sub hl [7, 1] rfl)
    · have h := h.2 c_7
      refine lv_lload hx hb d_M_side_85 (lv_at hl 0 rfl) ?_
      refine lv_lload hx hb d_M_side_87 (lv_at hl 2 rfl) ?_
      refine lv_land hx hb d_M_side_89 ?_
      refine lv_goto (tgt := 102) hx hb d_M_side_90 (by decide) ?_
      refine b_M_side_J102 C0 _ _ _ h hw (lv_sub hl [7, 1] rfl)
  · have h := h.2 c_2
    refine lv_iconst (v := 1) hx hb d_M_side_15 (by decide) ?_
    refine lv_iload hx hb d_M_side_16 (lv_at hl 0 rfl) ?_
    refine lv_bipush (v := 7) hx hb d_M_side_18 (by decide) ?_
    refine lv_isub hx hb d_M_side_20 ?_
    refine lv_ishl hx hb d_M_side_21 ?_
    refine lv_topi (fun v5_9 e_v5_9 => ?_)
    have h := h v5_9 e_v5_9
    refine lv_istore (lv' := [(5, .int v5_9), (4, .int (M_nodeVariable x1.toNatClampNeg)), (0, .ref (am 0)), (1, .int x1), (2, .int x2), (3, .int x3)]) hx hb d_M_side_22 hl (by decide) rfl (fun ls hl => ?_)
    refine lv_aload_n hx hb d_M_side_24 rfl (lv_at hl 2 rfl) ?_
    refine x_get C0 hw 0 rfl rfl i_M 28 (by decide) wm_753 rfl rfl d_M_side_25 ?_
    refine lv_bipush (v := 16) hx hb d_M_side_28 (by decide) ?_
    refine lv_iload_n hx hb d_M_side_30 rfl (lv_at hl 3 rfl) ?_
    refine lv_imul hx hb d_M_side_31 ?_
    refine lv_iload_n hx hb d_M_side_32 rfl (lv_at hl 5 rfl) ?_
    refine lv_if_eq (tgt := 43) hx hb d_M_side_33 (by decide) (fun c_10 => ?_) (fun c_10 => ?_)
    · have h := h.1 c_10
      refine lv_iload_n hx hb d_M_side_43 rfl (lv_at hl 4 rfl) ?_
      refine lv_iload hx hb d_M_side_44 (lv_at hl 0 rfl) ?_
      refine lv_iconst (v := -1) hx hb d_M_side_46 (by decide) ?_
      refine lv_ixor hx hb d_M_side_47 ?_
      refine lv_iand hx hb d_M_side_48 ?_
      refine lv_iadd hx hb d_M_side_49 ?_
      obtain ⟨hi_11, h⟩ := h
      refine x_lald C0 hw 17 rfl hi_11 d_M_side_50 ?_
      exact x_lret C0 hw () h rfl d_M_side_51
    · have h := h.2 c_10
      refine lv_iload_n hx hb d_M_side_36 rfl (lv_at hl 4 rfl) ?_
      refine lv_iload hx hb d_M_side_37 (lv_at hl 0 rfl) ?_
      refine lv_ior hx hb d_M_side_39 ?_
      refine lv_goto (tgt := 49) hx hb d_M_side_40 (by decide) ?_
      refine lv_iadd hx hb d_M_side_49 ?_
      obtain ⟨hi_12, h⟩ := h
      refine x_lald C0 hw 17 rfl hi_12 d_M_side_50 ?_
      exact x_lret C0 hw () h rfl d_M_side_51
theorem g_M_leastVariable : GY y_M_leastVariable b_M_leastVariable 4 (some .int) 1 := ⟨wm_955, wm_62, by decide +kernel, by decide +kernel, by decide +kernel⟩
def p_M_leastVariable_L17 (M_node : Nat → Int64) (M_nodeVariable : Nat → Int32) (x1 : Int32) (x2 : Int32) (k : Int32 → (Nat → Int32) → Prop) (k49 : Prop) : Nat → Int32 → Prop
  | 0, _ => False
  | n + 1, x3 =>
    (((16 : Int32) ≤ x3 → k49) ∧ (¬ (16 : Int32) ≤ x3 → (p_M_side M_node M_nodeVariable x1 x3 (0 : Int32) (fun (r_4 : Int64) => (p_M_side M_node M_nodeVariable x1 x3 (1 : Int32) (fun (r_5 : Int64) => (((lg_cmp r_4 r_5) = 0 → (p_M_leastVariable_L17 M_node M_nodeVariable x1 x2 k k49 n (x3 + 1))) ∧ (¬ (lg_cmp r_4 r_5) = 0 → (k x2 M_nodeVariable)))))))))
def p_M_leastVariable_L2 (M_node : Nat → Int64) (x1 : Int32) (k : Int32 → (Nat → Int32) → Prop) : Nat → Int32 → (Nat → Int32) → Prop
  | 0, _, _ => False
  | n + 1, x2, M_nodeVariable =>
    (((10 : Int32) < x2 → (k (0 : Int32) M_nodeVariable)) ∧ (¬ (10 : Int32) < x2 → (vp_in x1 300 ∧ (∃ j_7, p_M_leastVariable_L17 M_node (upd M_nodeVariable x1.toNatClampNeg x2) x1 x2 k (p_M_leastVariable_L2 M_node x1 k n (x2 + 1) (upd M_nodeVariable x1.toNatClampNeg x2)) j_7 (0 : Int32)))))
def p_M_leastVariable (M_node : Nat → Int64) (M_nodeVariable : Nat → Int32) (x1 : Int32) (k : Int32 → (Nat → Int32) → Prop) : Prop :=
  (∃ j_8, p_M_leastVariable_L2 M_node x1 k j_8 (1 : Int32) M_nodeVariable)
abbrev rm_M_leastVariable : Room := { frames := 2, cells := 0, slots := 0, locals := 52 }
set_option maxHeartbeats 4000000 in
set_option maxRecDepth 100000 in
theorem b_M_leastVariable_L17 {p : Program} {l : Launch} {e : Env} {s : State} {m : MethodId} {args : Array Value} {below : List Frame} {meth : Method} {c : Code} {D : va_G} {ca : Nat → ClassId} {tp : Nat} {A : Nat → Prop} {am : Nat → Nat} {M_clauses : Int32} {M_given : Int32} {M_end : Int32} {M_taped : Int32} {M_size : Int32} {M_at : Int32} {M_to : Int32} {M_sort : Int32} {M_worth : Int32} {M_faultKind : Int32} {M_faultPlace : Int32} {M_isTold : Int32} {M_nodes : Int32} {M_plain : Nat → Int32} {M_minus : Nat → Int32} {M_block : Nat → Int32} {M_left : Nat → Int32} {M_right : Nat → Int32} {M_pivot : Nat → Int32} {M_live : Nat → Int32} {M_needed : Nat → Int32} {M_label : Nat → Int32} {M_tape : Nat → Int32} {M_of : Nat → Int64} {M_kept : Nat → Int64} {M_had : Nat → Int32} {M_told : Nat → Int64} {M_first : Nat → Int64} {M_second : Nat → Int64} {M_node : Nat → Int64} {M_nodeVariable : Nat → Int32} {M_nodeLow : Nat → Int32} {M_nodeHigh : Nat → Int32} {M_wait : Nat → Int32} {x1 : Int32} {x2 : Int32} {k : Int32 → (Nat → Int32) → Prop} {k49 : Prop} (C0 : CX p s m args meth c b_M_leastVariable 4 (some .int) R_M "leastVariable" D ca tp A) :
    ∀ (n : Nat) (x3 : Int32) {H : Heap} {locs : List Loc} {ls : Array Slot}, p_M_leastVariable_L17 M_node M_nodeVariable x1 x2 k k49 n x3 → WH D A s (WM am ca M_clauses M_given M_end M_taped M_size M_at M_to M_sort M_worth M_faultKind M_faultPlace M_isTold M_nodes M_plain M_minus M_block M_left M_right M_pivot M_live M_needed M_label M_tape M_of M_kept M_had M_told M_first M_second M_node M_nodeVariable M_nodeLow M_nodeHigh M_wait) H locs → lv_has ls 4 [(0, .ref (am 0)), (1, .int x1), (2, .int x2), (3, .int x3)] →
      (∀ (H : Heap) (locs : List Loc) (ls : Array Slot), k49 → WH D A s (WM am ca M_clauses M_given M_end M_taped M_size M_at M_to M_sort M_worth M_faultKind M_faultPlace M_isTold M_nodes M_plain M_minus M_block M_left M_right M_pivot M_live M_needed M_label M_tape M_of M_kept M_had M_told M_first M_second M_node M_nodeVariable M_nodeLow M_nodeHigh M_wait) H locs → lv_has ls 4 [(0, .ref (am 0)), (1, .int x1), (2, .int x2)] → W p l e rm_M_leastVariable s m args below meth c H locs 0 0 (QI D A below args s (fun r (u : (Nat → Int32)) => k r u) (fun (u : (Nat → Int32)) => WM am ca M_clauses M_given M_end M_taped M_size M_at M_to M_sort M_worth M_faultKind M_faultPlace M_isTold M_nodes M_plain M_minus M_block M_left M_right M_pivot M_live M_needed M_label M_tape M_of M_kept M_had M_told M_first M_second M_node u M_nodeLow M_nodeHigh M_wait) 0 0) (F0 m 49 ls [])) →
      W p l e rm_M_leastVariable s m args below meth c H locs 0 0 (QI D A below args s (fun r (u : (Nat → Int32)) => k r u) (fun (u : (Nat → Int32)) => WM am ca M_clauses M_given M_end M_taped M_size M_at M_to M_sort M_worth M_faultKind M_faultPlace M_isTold M_nodes M_plain M_minus M_block M_left M_right M_pivot M_live M_needed M_label M_tape M_of M_kept M_had M_told M_first M_second M_node u M_nodeLow M_nodeHigh M_wait) 0 0) (F0 m 17 ls []) := by
  have hx := C0.1
  have hb := C0.2.1
  intro n
  induction n with
  | zero =>
    intro x3 H locs ls h
    exact False.elim h
  | succ n ih =>
    intro x3 H locs ls h hw hl h49
    unfold p_M_leastVariable_L17 at h
    refine lv_iload_n hx hb d_M_leastVariable_17 rfl (lv_at hl 3 rfl) ?_
    refine lv_bipush (v := 16) hx hb d_M_leastVariable_18 (by decide) ?_
    refine lv_icmp_ge (tgt := 49) hx hb d_M_leastVariable_20 (by decide) (fun c_3 => ?_) (fun c_3 => ?_)
    · have h := h.1 c_3
      exact h49 _ _ _ h hw (lv_sub hl [0, 1, 2] rfl)
    · have h := h.2 c_3
      refine lv_aload_n hx hb d_M_leastVariable_23 rfl (lv_at hl 0 rfl) ?_
      refine lv_iload_n hx hb d_M_leastVariable_24 rfl (lv_at hl 1 rfl) ?_
      refine lv_iload_n hx hb d_M_leastVariable_25 rfl (lv_at hl 3 rfl) ?_
      refine lv_iconst (v := 0) hx hb d_M_leastVariable_26 (by decide) ?_
      refine x_callVl C0 hw hl (c_M_side h) g_M_side wm_956 ⟨wm_50, wm_958⟩ 0 rfl rfl rfl (As := [.int x1, .int x3, .int (0 : Int32)]) (rest := []) rfl rfl (Nat.le_of_ble_eq_true rfl) ⟨rfl, rfl⟩ ⟨Nat.le_of_ble_eq_true rfl, Nat.le_of_ble_eq_true rfl⟩ ⟨Nat.le_of_ble_eq_true rfl, Nat.le_of_ble_eq_true rfl⟩ d_M_leastVariable_27 (fun r_4 u H locs h hw => ?_)
      refine lv_aload_n hx hb d_M_leastVariable_30 rfl (lv_at hl 0 rfl) ?_
      refine lv_iload_n hx hb d_M_leastVariable_31 rfl (lv_at hl 1 rfl) ?_
      refine lv_iload_n hx hb d_M_leastVariable_32 rfl (lv_at hl 3 rfl) ?_
      refine lv_iconst (v := 1) hx hb d_M_leastVariable_33 (by decide) ?_
      refine x_callVl C0 hw hl (c_M_side h) g_M_side wm_956 ⟨wm_50, wm_958⟩ 0 rfl rfl rfl (As := [.int x1, .int x3, .int (1 : Int32)]) (rest := [.long r_4]) rfl rfl (Nat.le_of_ble_eq_true rfl) ⟨rfl, rfl⟩ ⟨Nat.le_of_ble_eq_true rfl, Nat.le_of_ble_eq_true rfl⟩ ⟨Nat.le_of_ble_eq_true rfl, Nat.le_of_ble_eq_true rfl⟩ d_M_leastVariable_34 (fun r_5 u H locs h hw => ?_)
      refine W.lcmp hx hb d_M_leastVariable_37 ?_
      refine lv_if_eq (tgt := 43) hx hb d_M_leastVariable_38 (by decide) (fun c_6 => ?_) (fun c_6 => ?_)
      · have h := h.1 c_6
        refine lv_iinc (v := (x3 + 1)) (lv' := [(3, .int (x3 + 1)), (0, .ref (am 0)), (1, .int x1), (2, .int x2)]) hx hb d_M_leastVariable_43 hl (k := 3) rfl rfl (by decide) rfl (fun ls hl => ?_)
        refine lv_goto (tgt := 17) hx hb d_M_leastVariable_46 (by decide) ?_
        exact ih _ h hw (lv_sub hl [1, 2, 3, 0] rfl) h49
      · have h := h.2 c_6
        refine lv_iload_n hx hb d_M_leastVariable_41 rfl (lv_at hl 2 rfl) ?_
        exact x_iret C0 hw M_nodeVariable h rfl d_M_leastVariable_42
set_option maxHeartbeats 4000000 in
set_option maxRecDepth 100000 in
theorem b_M_leastVariable_L2 {p : Program} {l : Launch} {e : Env} {s : State} {m : MethodId} {args : Array Value} {below : List Frame} {meth : Method} {c : Code} {D : va_G} {ca : Nat → ClassId} {tp : Nat} {A : Nat → Prop} {am : Nat → Nat} {M_clauses : Int32} {M_given : Int32} {M_end : Int32} {M_taped : Int32} {M_size : Int32} {M_at : Int32} {M_to : Int32} {M_sort : Int32} {M_worth : Int32} {M_faultKind : Int32} {M_faultPlace : Int32} {M_isTold : Int32} {M_nodes : Int32} {M_plain : Nat → Int32} {M_minus : Nat → Int32} {M_block : Nat → Int32} {M_left : Nat → Int32} {M_right : Nat → Int32} {M_pivot : Nat → Int32} {M_live : Nat → Int32} {M_needed : Nat → Int32} {M_label : Nat → Int32} {M_tape : Nat → Int32} {M_of : Nat → Int64} {M_kept : Nat → Int64} {M_had : Nat → Int32} {M_told : Nat → Int64} {M_first : Nat → Int64} {M_second : Nat → Int64} {M_node : Nat → Int64} {M_nodeLow : Nat → Int32} {M_nodeHigh : Nat → Int32} {M_wait : Nat → Int32} {x1 : Int32} {k : Int32 → (Nat → Int32) → Prop}  (C0 : CX p s m args meth c b_M_leastVariable 4 (some .int) R_M "leastVariable" D ca tp A) :
    ∀ (n : Nat) (x2 : Int32) (M_nodeVariable : Nat → Int32) {H : Heap} {locs : List Loc} {ls : Array Slot}, p_M_leastVariable_L2 M_node x1 k n x2 M_nodeVariable → WH D A s (WM am ca M_clauses M_given M_end M_taped M_size M_at M_to M_sort M_worth M_faultKind M_faultPlace M_isTold M_nodes M_plain M_minus M_block M_left M_right M_pivot M_live M_needed M_label M_tape M_of M_kept M_had M_told M_first M_second M_node M_nodeVariable M_nodeLow M_nodeHigh M_wait) H locs → lv_has ls 4 [(0, .ref (am 0)), (1, .int x1), (2, .int x2)] →
      W p l e rm_M_leastVariable s m args below meth c H locs 0 0 (QI D A below args s (fun r (u : (Nat → Int32)) => k r u) (fun (u : (Nat → Int32)) => WM am ca M_clauses M_given M_end M_taped M_size M_at M_to M_sort M_worth M_faultKind M_faultPlace M_isTold M_nodes M_plain M_minus M_block M_left M_right M_pivot M_live M_needed M_label M_tape M_of M_kept M_had M_told M_first M_second M_node u M_nodeLow M_nodeHigh M_wait) 0 0) (F0 m 2 ls []) := by
  have hx := C0.1
  have hb := C0.2.1
  intro n
  induction n with
  | zero =>
    intro x2 M_nodeVariable H locs ls h
    exact False.elim h
  | succ n ih =>
    intro x2 M_nodeVariable H locs ls h hw hl
    unfold p_M_leastVariable_L2 at h
    refine lv_iload_n hx hb d_M_leastVariable_2 rfl (lv_at hl 2 rfl) ?_
    refine lv_bipush (v := 10) hx hb d_M_leastVariable_3 (by decide) ?_
    refine lv_icmp_gt (tgt := 55) hx hb d_M_leastVariable_5 (by decide) (fun c_1 => ?_) (fun c_1 => ?_)
    · have h := h.1 c_1
      refine lv_iconst (v := 0) hx hb d_M_leastVariable_55 (by decide) ?_
      exact x_iret C0 hw M_nodeVariable h rfl d_M_leastVariable_56
    · have h := h.2 c_1
      refine lv_aload_n hx hb d_M_leastVariable_8 rfl (lv_at hl 0 rfl) ?_
      refine x_get C0 hw 0 rfl rfl i_M 29 (by decide) wm_754 rfl rfl d_M_leastVariable_9 ?_
      refine lv_iload_n hx hb d_M_leastVariable_12 rfl (lv_at hl 1 rfl) ?_
      refine lv_iload_n hx hb d_M_leastVariable_13 rfl (lv_at hl 2 rfl) ?_
      obtain ⟨hi_2, h⟩ := h
      refine x_iast C0 hw 18 rfl hi_2 (ws' := WM am ca M_clauses M_given M_end M_taped M_size M_at M_to M_sort M_worth M_faultKind M_faultPlace M_isTold M_nodes M_plain M_minus M_block M_left M_right M_pivot M_live M_needed M_label M_tape M_of M_kept M_had M_told M_first M_second M_node (upd M_nodeVariable x1.toNatClampNeg x2) M_nodeLow M_nodeHigh M_wait) rfl d_M_leastVariable_14 (fun H locs hw => ?_)
      refine lv_iconst (v := 0) hx hb d_M_leastVariable_15 (by decide) ?_
      refine lv_istore_n (lv' := [(3, .int (0 : Int32)), (0, .ref (am 0)), (1, .int x1), (2, .int x2)]) hx hb d_M_leastVariable_16 rfl hl (by decide) rfl (fun ls hl => ?_)
      obtain ⟨j_7, h⟩ := h
      refine b_M_leastVariable_L17 C0 _ _ h hw (lv_sub hl [1, 2, 3, 0] rfl) (fun H locs ls h hw hl => ?_)
      refine lv_iinc (v := (x2 + 1)) (lv' := [(2, .int (x2 + 1)), (0, .ref (am 0)), (1, .int x1)]) hx hb d_M_leastVariable_49 hl (k := 2) rfl rfl (by decide) rfl (fun ls hl => ?_)
      refine lv_goto (tgt := 2) hx hb d_M_leastVariable_52 (by decide) ?_
      exact ih _ _ h hw (lv_sub hl [1, 2, 0] rfl)
set_option maxHeartbeats 4000000 in
set_option maxRecDepth 100000 in
theorem c_M_leastVariable {l : Launch} {D : va_G} {ca : Nat → ClassId} {tp : Nat} {am : Nat → Nat} {M_clauses : Int32} {M_given : Int32} {M_end : Int32} {M_taped : Int32} {M_size : Int32} {M_at : Int32} {M_to : Int32} {M_sort : Int32} {M_worth : Int32} {M_faultKind : Int32} {M_faultPlace : Int32} {M_isTold : Int32} {M_nodes : Int32} {M_plain : Nat → Int32} {M_minus : Nat → Int32} {M_block : Nat → Int32} {M_left : Nat → Int32} {M_right : Nat → Int32} {M_pivot : Nat → Int32} {M_live : Nat → Int32} {M_needed : Nat → Int32} {M_label : Nat → Int32} {M_tape : Nat → Int32} {M_of : Nat → Int64} {M_kept : Nat → Int64} {M_had : Nat → Int32} {M_told : Nat → Int64} {M_first : Nat → Int64} {M_second : Nat → Int64} {M_node : Nat → Int64} {M_nodeVariable : Nat → Int32} {M_nodeLow : Nat → Int32} {M_nodeHigh : Nat → Int32} {M_wait : Nat → Int32} {x1 : Int32} {k : Int32 → (Nat → Int32) → Prop} (h : p_M_leastVariable M_node M_nodeVariable x1 k) :
    MTi l y_M_leastVariable b_M_leastVariable 4 (some .int) rm_M_leastVariable D ca tp [.ref (am 0), .int x1] (WM am ca M_clauses M_given M_end M_taped M_size M_at M_to M_sort M_worth M_faultKind M_faultPlace M_isTold M_nodes M_plain M_minus M_block M_left M_right M_pivot M_live M_needed M_label M_tape M_of M_kept M_had M_told M_first M_second M_node M_nodeVariable M_nodeLow M_nodeHigh M_wait)
      (fun r (u : (Nat → Int32)) => k r u)
      (fun (u : (Nat → Int32)) => WM am ca M_clauses M_given M_end M_taped M_size M_at M_to M_sort M_worth M_faultKind M_faultPlace M_isTold M_nodes M_plain M_minus M_block M_left M_right M_pivot M_live M_needed M_label M_tape M_of M_kept M_had M_told M_first M_second M_node u M_nodeLow M_nodeHigh M_wait) 0 0 := by
  refine x_entryi (own := R_M) (nm := "leastVariable") (by decide) rfl rfl (Nat.le_of_ble_eq_true rfl) (fun p e s m below meth c A ls C0 hw hl => ?_)
  have hx := C0.1
  have hb := C0.2.1
  have hl : lv_has ls 4 [(0, .ref (am 0)), (1, .int x1)] := hl
  unfold p_M_leastVariable at h
  refine lv_iconst (v := 1) hx hb d_M_leastVariable_0 (by decide) ?_
  refine lv_istore_n (lv' := [(2, .int (1 : Int32)), (0, .ref (am 0)), (1, .int x1)]) hx hb d_M_leastVariable_1 rfl hl (by decide) rfl (fun ls hl => ?_)
  obtain ⟨j_8, h⟩ := h
  refine b_M_leastVariable_L2 C0 _ _ _ h hw (lv_sub hl [1, 2, 0] rfl)
theorem g_M_nodeOf : GY y_M_nodeOf b_M_nodeOf 6 (some .int) 0 := ⟨wm_951, wm_62, by decide +kernel, by decide +kernel, by decide +kernel⟩
def p_M_nodeOf_J32 (M_second : Nat → Int64) (k6 : Int32 → Int32 → Int32 → Prop) (x2 : Int32) (x3 : Int32) (t0 : Int32) (M_nodes : Int32) (M_node : Nat → Int64) (M_nodeVariable : Nat → Int32) : Prop :=
  ((x2 = 0 → (k6 t0 (0 : Int32) (x3 + 1))) ∧ (¬ x2 = 0 → (vp_in x3 16 ∧ ((¬ (lg_cmp (M_second x3.toNatClampNeg) (-1 : Int64)) = 0 → (k6 t0 (0 : Int32) (x3 + 1))) ∧ ((lg_cmp (M_second x3.toNatClampNeg) (-1 : Int64)) = 0 → (k6 t0 (1 : Int32) (x3 + 1)))))))
def p_M_nodeOf_J31 (M_second : Nat → Int64) (k6 : Int32 → Int32 → Int32 → Prop) (x2 : Int32) (x3 : Int32) (M_nodes : Int32) (M_node : Nat → Int64) (M_nodeVariable : Nat → Int32) : Prop :=
  (p_M_nodeOf_J32 M_second k6 x2 x3 (0 : Int32) M_nodes M_node M_nodeVariable)
def p_M_nodeOf_L6 (M_nodes : Int32) (M_second : Nat → Int64) (M_node : Nat → Int64) (M_nodeVariable : Nat → Int32) (k62 : Int32 → Int32 → Prop) : Nat → Int32 → Int32 → Int32 → Prop
  | 0, _, _, _ => False
  | n + 1, x1, x2, x3 =>
    (((16 : Int32) ≤ x3 → (k62 x1 x2)) ∧ (¬ (16 : Int32) ≤ x3 → ((x1 = 0 → (p_M_nodeOf_J31 M_second (p_M_nodeOf_L6 M_nodes M_second M_node M_nodeVariable k62 n) x2 x3 M_nodes M_node M_nodeVariable)) ∧ (¬ x1 = 0 → (vp_in x3 16 ∧ ((¬ (lg_cmp (M_second x3.toNatClampNeg) (0 : Int64)) = 0 → (p_M_nodeOf_J31 M_second (p_M_nodeOf_L6 M_nodes M_second M_node M_nodeVariable k62 n) x2 x3 M_nodes M_node M_nodeVariable)) ∧ ((lg_cmp (M_second x3.toNatClampNeg) (0 : Int64)) = 0 → (p_M_nodeOf_J32 M_second (p_M_nodeOf_L6 M_nodes M_second M_node M_nodeVariable k62 n) x2 x3 (1 : Int32) M_nodes M_node M_nodeVariable))))))))
def p_M_nodeOf_L98 (M_second : Nat → Int64) (M_node : Nat → Int64) (x3 : Int32) (k146 : Int32 → Prop) : Nat → Int32 → Int32 → Prop
  | 0, _, _ => False
  | n + 1, x4, x5 =>
    (((16 : Int32) ≤ x5 → (k146 x4)) ∧ (¬ (16 : Int32) ≤ x5 → ((x4 = 0 → (p_M_nodeOf_L98 M_second M_node x3 k146 n (0 : Int32) (x5 + 1))) ∧ (¬ x4 = 0 → (vp_in (((16 : Int32) * x3) + x5) 4800 ∧ (vp_in x5 16 ∧ ((¬ (lg_cmp (M_node (((16 : Int32) * x3) + x5).toNatClampNeg) (M_second x5.toNatClampNeg)) = 0 → (p_M_nodeOf_L98 M_second M_node x3 k146 n (0 : Int32) (x5 + 1))) ∧ ((lg_cmp (M_node (((16 : Int32) * x3) + x5).toNatClampNeg) (M_second x5.toNatClampNeg)) = 0 → (p_M_nodeOf_L98 M_second M_node x3 k146 n (1 : Int32) (x5 + 1))))))))))
def p_M_nodeOf_L84 (M_nodes : Int32) (M_second : Nat → Int64) (M_node : Nat → Int64) (M_nodeVariable : Nat → Int32) (k : Int32 → Int32 → (Nat → Int64) → (Nat → Int32) → Prop) (k159 : Prop) : Nat → Int32 → Prop
  | 0, _ => False
  | n + 1, x3 =>
    ((M_nodes ≤ x3 → k159) ∧ (¬ M_nodes ≤ x3 → (∃ j_21, p_M_nodeOf_L98 M_second M_node x3 (fun (x4_19 : Int32) => ((x4_19 = 0 → (p_M_nodeOf_L84 M_nodes M_second M_node M_nodeVariable k k159 n (x3 + 1))) ∧ (¬ x4_19 = 0 → (k x3 M_nodes M_node M_nodeVariable)))) j_21 (1 : Int32) (0 : Int32))))
def p_M_nodeOf_L161 (M_nodes : Int32) (M_second : Nat → Int64) (k193 : (Nat → Int64) → Prop) : Nat → Int32 → (Nat → Int64) → Prop
  | 0, _, _ => False
  | n + 1, x3, M_node =>
    (((16 : Int32) ≤ x3 → (k193 M_node)) ∧ (¬ (16 : Int32) ≤ x3 → (vp_in x3 16 ∧ (vp_in (((16 : Int32) * M_nodes) + x3) 4800 ∧ (p_M_nodeOf_L161 M_nodes M_second k193 n (x3 + 1) (vp_updL M_node (((16 : Int32) * M_nodes) + x3).toNatClampNeg (M_second x3.toNatClampNeg)))))))
def p_M_nodeOf (M_nodes : Int32) (M_second : Nat → Int64) (M_node : Nat → Int64) (M_nodeVariable : Nat → Int32) (k : Int32 → Int32 → (Nat → Int64) → (Nat → Int32) → Prop) : Prop :=
  (∃ j_31, p_M_nodeOf_L6 M_nodes M_second M_node M_nodeVariable (fun (x1_8 : Int32) (x2_9 : Int32) => ((¬ x1_8 = 0 → ((x1_8 = 0 → (k (-3 : Int32) M_nodes M_node M_nodeVariable)) ∧ (¬ x1_8 = 0 → (k (-2 : Int32) M_nodes M_node M_nodeVariable)))) ∧ (x1_8 = 0 → ((x2_9 = 0 → (∃ j_29, p_M_nodeOf_L84 M_nodes M_second M_node M_nodeVariable k (∃ j_28, p_M_nodeOf_L161 M_nodes M_second (fun (M_node_25 : Nat → Int64) => (p_M_leastVariable M_node_25 M_nodeVariable ((M_nodes + (1 : Int32)) - (1 : Int32)) (fun (r_27 : Int32) (M_nodeVariable_26 : Nat → Int32) => (k ((M_nodes + (1 : Int32)) - (1 : Int32)) (M_nodes + (1 : Int32)) M_node_25 M_nodeVariable_26)))) j_28 (0 : Int32) M_node) j_29 (0 : Int32))) ∧ (¬ x2_9 = 0 → ((x1_8 = 0 → (k (-3 : Int32) M_nodes M_node M_nodeVariable)) ∧ (¬ x1_8 = 0 → (k (-2 : Int32) M_nodes M_node M_nodeVariable)))))))) j_31 (1 : Int32) (1 : Int32) (0 : Int32))
abbrev rm_M_nodeOf : Room := { frames := 3, cells := 0, slots := 0, locals := 75 }
set_option maxHeartbeats 4000000 in
set_option maxRecDepth 100000 in
theorem b_M_nodeOf_J32 {p : Program} {l : Launch} {e : Env} {s : State} {m : MethodId} {args : Array Value} {below : List Frame} {meth : Method} {c : Code} {D : va_G} {ca : Nat → ClassId} {tp : Nat} {A : Nat → Prop} {am : Nat → Nat} {M_clauses : Int32} {M_given : Int32} {M_end : Int32} {M_taped : Int32} {M_size : Int32} {M_at : Int32} {M_to : Int32} {M_sort : Int32} {M_worth : Int32} {M_faultKind : Int32} {M_faultPlace : Int32} {M_isTold : Int32} {M_plain : Nat → Int32} {M_minus : Nat → Int32} {M_block : Nat → Int32} {M_left : Nat → Int32} {M_right : Nat → Int32} {M_pivot : Nat → Int32} {M_live : Nat → Int32} {M_needed : Nat → Int32} {M_label : Nat → Int32} {M_tape : Nat → Int32} {M_of : Nat → Int64} {M_kept : Nat → Int64} {M_had : Nat → Int32} {M_told : Nat → Int64} {M_first : Nat → Int64} {M_second : Nat → Int64} {M_nodeLow : Nat → Int32} {M_nodeHigh : Nat → Int32} {M_wait : Nat → Int32}  {k : Int32 → Int32 → (Nat → Int64) → (Nat → Int32) → Prop} {k6 : Int32 → Int32 → Int32 → Prop} (C0 : CX p s m args meth c b_M_nodeOf 6 (some .int) R_M "nodeOf" D ca tp A) :
    ∀ (x2 : Int32) (x3 : Int32) (t0 : Int32) (M_nodes : Int32) (M_node : Nat → Int64) (M_nodeVariable : Nat → Int32) {H : Heap} {locs : List Loc} {ls : Array Slot}, p_M_nodeOf_J32 M_second k6 x2 x3 t0 M_nodes M_node M_nodeVariable → WH D A s (WM am ca M_clauses M_given M_end M_taped M_size M_at M_to M_sort M_worth M_faultKind M_faultPlace M_isTold M_nodes M_plain M_minus M_block M_left M_right M_pivot M_live M_needed M_label M_tape M_of M_kept M_had M_told M_first M_second M_node M_nodeVariable M_nodeLow M_nodeHigh M_wait) H locs → lv_has ls 6 [(0, .ref (am 0)), (2, .int x2), (3, .int x3)] →
      (∀ (x1 : Int32) (x2 : Int32) (x3 : Int32) (H : Heap) (locs : List Loc) (ls : Array Slot), k6 x1 x2 x3 → WH D A s (WM am ca M_clauses M_given M_end M_taped M_size M_at M_to M_sort M_worth M_faultKind M_faultPlace M_isTold M_nodes M_plain M_minus M_block M_left M_right M_pivot M_live M_needed M_label M_tape M_of M_kept M_had M_told M_first M_second M_node M_nodeVariable M_nodeLow M_nodeHigh M_wait) H locs → lv_has ls 6 [(0, .ref (am 0)), (1, .int x1), (2, .int x2), (3, .int x3)] → W p l e rm_M_nodeOf s m args below meth c H locs 0 0 (QI D A below args s (fun r (u : Int32 × (Nat → Int64) × (Nat → Int32)) => k r u.1 u.2.1 u.2.2) (fun (u : Int32 × (Nat → Int64) × (Nat → Int32)) => WM am ca M_clauses M_given M_end M_taped M_size M_at M_to M_sort M_worth M_faultKind M_faultPlace M_isTold u.1 M_plain M_minus M_block M_left M_right M_pivot M_live M_needed M_label M_tape M_of M_kept M_had M_told M_first M_second u.2.1 u.2.2 M_nodeLow M_nodeHigh M_wait) 0 0) (F0 m 6 ls [])) →
      W p l e rm_M_nodeOf s m args below meth c H locs 0 0 (QI D A below args s (fun r (u : Int32 × (Nat → Int64) × (Nat → Int32)) => k r u.1 u.2.1 u.2.2) (fun (u : Int32 × (Nat → Int64) × (Nat → Int32)) => WM am ca M_clauses M_given M_end M_taped M_size M_at M_to M_sort M_worth M_faultKind M_faultPlace M_isTold u.1 M_plain M_minus M_block M_left M_right M_pivot M_live M_needed M_label M_tape M_of M_kept M_had M_told M_first M_second u.2.1 u.2.2 M_nodeLow M_nodeHigh M_wait) 0 0) (F0 m 32 ls [.int t0]) := by
  have hx := C0.1
  have hb := C0.2.1
  intro x2 x3 t0 M_nodes M_node M_nodeVariable H locs ls h hw hl h6
  unfold p_M_nodeOf_J32 at h
  refine lv_istore_n (lv' := [(1, .int t0), (0, .ref (am 0)), (2, .int x2), (3, .int x3)]) hx hb d_M_nodeOf_32 rfl hl (by decide) rfl (fun ls hl => ?_)
  refine lv_iload_n hx hb d_M_nodeOf_33 rfl (lv_at hl 2 rfl) ?_
  refine lv_if_eq (tgt := 54) hx hb d_M_nodeOf_34 (by decide) (fun c_3 => ?_) (fun c_3 => ?_)
  · have h := h.1 c_3
    refine lv_iconst (v := 0) hx hb d_M_nodeOf_54 (by decide) ?_
    refine lv_istore_n (lv' := [(2, .int (0 : Int32)), (1, .int t0), (0, .ref (am 0)), (3, .int x3)]) hx hb d_M_nodeOf_55 rfl hl (by decide) rfl (fun ls hl => ?_)
    refine lv_iinc (v := (x3 + 1)) (lv' := [(3, .int (x3 + 1)), (2, .int (0 : Int32)), (1, .int t0), (0, .ref (am 0))]) hx hb d_M_nodeOf_56 hl (k := 3) rfl rfl (by decide) rfl (fun ls hl => ?_)
    refine lv_goto (tgt := 6) hx hb d_M_nodeOf_59 (by decide) ?_
    exact h6 _ _ _ _ _ _ h hw (lv_sub hl [3, 2, 1, 0] rfl)
  · have h := h.2 c_3
    refine lv_aload_n hx hb d_M_nodeOf_37 rfl (lv_at hl 1 rfl) ?_
    refine x_get C0 hw 0 rfl rfl i_M 27 (by decide) wm_752 rfl rfl d_M_nodeOf_38 ?_
    refine lv_iload_n hx hb d_M_nodeOf_41 rfl (lv_at hl 3 rfl) ?_
    obtain ⟨hi_4, h⟩ := h
    refine x_lald C0 hw 16 rfl hi_4 d_M_nodeOf_42 ?_
    refine x_ldc2 C0 wm_943 d_M_nodeOf_43 ?_
    refine W.lcmp hx hb d_M_nodeOf_46 ?_
    refine lv_if_ne (tgt := 54) hx hb d_M_nodeOf_47 (by decide) (fun c_5 => ?_) (fun c_5 => ?_)
    · have h := h.1 c_5
      refine lv_iconst (v := 0) hx hb d_M_nodeOf_54 (by decide) ?_
      refine lv_istore_n (lv' := [(2, .int (0 : Int32)), (1, .int t0), (0, .ref (am 0)), (3, .int x3)]) hx hb d_M_nodeOf_55 rfl hl (by decide) rfl (fun ls hl => ?_)
      refine lv_iinc (v := (x3 + 1)) (lv' := [(3, .int (x3 + 1)), (2, .int (0 : Int32)), (1, .int t0), (0, .ref (am 0))]) hx hb d_M_nodeOf_56 hl (k := 3) rfl rfl (by decide) rfl (fun ls hl => ?_)
      refine lv_goto (tgt := 6) hx hb d_M_nodeOf_59 (by decide) ?_
      exact h6 _ _ _ _ _ _ h hw (lv_sub hl [3, 2, 1, 0] rfl)
    · have h := h.2 c_5
      refine lv_iconst (v := 1) hx hb d_M_nodeOf_50 (by decide) ?_
      refine lv_goto (tgt := 55) hx hb d_M_nodeOf_51 (by decide) ?_
      refine lv_istore_n (lv' := [(2, .int (1 : Int32)), (1, .int t0), (0, .ref (am 0)), (3, .int x3)]) hx hb d_M_nodeOf_55 rfl hl (by decide) rfl (fun ls hl => ?_)
      refine lv_iinc (v := (x3 + 1)) (lv' := [(3, .int (x3 + 1)), (2, .int (1 : Int32)), (1, .int t0), (0, .ref (am 0))]) hx hb d_M_nodeOf_56 hl (k := 3) rfl rfl (by decide) rfl (fun ls hl => ?_)
      refine lv_goto (tgt := 6) hx hb d_M_nodeOf_59 (by decide) ?_
      exact h6 _ _ _ _ _ _ h hw (lv_sub hl [3, 2, 1, 0] rfl)
set_option maxHeartbeats 4000000 in
set_option maxRecDepth 100000 in
theorem b_M_nodeOf_J31 {p : Program} {l : Launch} {e : Env} {s : State} {m : MethodId} {args : Array Value} {below : List Frame} {meth : Method} {c : Code} {D : va_G} {ca : Nat → ClassId} {tp : Nat} {A : Nat → Prop} {am : Nat → Nat} {M_clauses : Int32} {M_given : Int32} {M_end : Int32} {M_taped : Int32} {M_size : Int32} {M_at : Int32} {M_to : Int32} {M_sort : Int32} {M_worth : Int32} {M_faultKind : Int32} {M_faultPlace : Int32} {M_isTold : Int32} {M_plain : Nat → Int32} {M_minus : Nat → Int32} {M_block : Nat → Int32} {M_left : Nat → Int32} {M_right : Nat → Int32} {M_pivot : Nat → Int32} {M_live : Nat → Int32} {M_needed : Nat → Int32} {M_label : Nat → Int32} {M_tape : Nat → Int32} {M_of : Nat → Int64} {M_kept : Nat → Int64} {M_had : Nat → Int32} {M_told : Nat → Int64} {M_first : Nat → Int64} {M_second : Nat → Int64} {M_nodeLow : Nat → Int32} {M_nodeHigh : Nat → Int32} {M_wait : Nat → Int32}  {k : Int32 → Int32 → (Nat → Int64) → (Nat → Int32) → Prop} {k6 : Int32 → Int32 → Int32 → Prop} (C0 : CX p s m args meth c b_M_nodeOf 6 (some .int) R_M "nodeOf" D ca tp A) :
    ∀ (x2 : Int32) (x3 : Int32) (M_nodes : Int32) (M_node : Nat → Int64) (M_nodeVariable : Nat → Int32) {H : Heap} {locs : List Loc} {ls : Array Slot}, p_M_nodeOf_J31 M_second k6 x2 x3 M_nodes M_node M_nodeVariable → WH D A s (WM am ca M_clauses M_given M_end M_taped M_size M_at M_to M_sort M_worth M_faultKind M_faultPlace M_isTold M_nodes M_plain M_minus M_block M_left M_right M_pivot M_live M_needed M_label M_tape M_of M_kept M_had M_told M_first M_second M_node M_nodeVariable M_nodeLow M_nodeHigh M_wait) H locs → lv_has ls 6 [(0, .ref (am 0)), (2, .int x2), (3, .int x3)] →
      (∀ (x1 : Int32) (x2 : Int32) (x3 : Int32) (H : Heap) (locs : List Loc) (ls : Array Slot), k6 x1 x2 x3 → WH D A s (WM am ca M_clauses M_given M_end M_taped M_size M_at M_to M_sort M_worth M_faultKind M_faultPlace M_isTold M_nodes M_plain M_minus M_block M_left M_right M_pivot M_live M_needed M_label M_tape M_of M_kept M_had M_told M_first M_second M_node M_nodeVariable M_nodeLow M_nodeHigh M_wait) H locs → lv_has ls 6 [(0, .ref (am 0)), (1, .int x1), (2, .int x2), (3, .int x3)] → W p l e rm_M_nodeOf s m args below meth c H locs 0 0 (QI D A below args s (fun r (u : Int32 × (Nat → Int64) × (Nat → Int32)) => k r u.1 u.2.1 u.2.2) (fun (u : Int32 × (Nat → Int64) × (Nat → Int32)) => WM am ca M_clauses M_given M_end M_taped M_size M_at M_to M_sort M_worth M_faultKind M_faultPlace M_isTold u.1 M_plain M_minus M_block M_left M_right M_pivot M_live M_needed M_label M_tape M_of M_kept M_had M_told M_first M_second u.2.1 u.2.2 M_nodeLow M_nodeHigh M_wait) 0 0) (F0 m 6 ls [])) →
      W p l e rm_M_nodeOf s m args below meth c H locs 0 0 (QI D A below args s (fun r (u : Int32 × (Nat → Int64) × (Nat → Int32)) => k r u.1 u.2.1 u.2.2) (fun (u : Int32 × (Nat → Int64) × (Nat → Int32)) => WM am ca M_clauses M_given M_end M_taped M_size M_at M_to M_sort M_worth M_faultKind M_faultPlace M_isTold u.1 M_plain M_minus M_block M_left M_right M_pivot M_live M_needed M_label M_tape M_of M_kept M_had M_told M_first M_second u.2.1 u.2.2 M_nodeLow M_nodeHigh M_wait) 0 0) (F0 m 31 ls []) := by
  have hx := C0.1
  have hb := C0.2.1
  intro x2 x3 M_nodes M_node M_nodeVariable H locs ls h hw hl h6
  unfold p_M_nodeOf_J31 at h
  refine lv_iconst (v := 0) hx hb d_M_nodeOf_31 (by decide) ?_
  refine b_M_nodeOf_J32 C0 _ _ _ _ _ _ h hw (lv_sub hl [0, 1, 2] rfl) h6
set_option maxHeartbeats 4000000 in
set_option maxRecDepth 100000 in
theorem b_M_nodeOf_L6 {p : Program} {l : Launch} {e : Env} {s : State} {m : MethodId} {args : Array Value} {below : List Frame} {meth : Method} {c : Code} {D : va_G} {ca : Nat → ClassId} {tp : Nat} {A : Nat → Prop} {am : Nat → Nat} {M_clauses : Int32} {M_given : Int32} {M_end : Int32} {M_taped : Int32} {M_size : Int32} {M_at : Int32} {M_to : Int32} {M_sort : Int32} {M_worth : Int32} {M_faultKind : Int32} {M_faultPlace : Int32} {M_isTold : Int32} {M_nodes : Int32} {M_plain : Nat → Int32} {M_minus : Nat → Int32} {M_block : Nat → Int32} {M_left : Nat → Int32} {M_right : Nat → Int32} {M_pivot : Nat → Int32} {M_live : Nat → Int32} {M_needed : Nat → Int32} {M_label : Nat → Int32} {M_tape : Nat → Int32} {M_of : Nat → Int64} {M_kept : Nat → Int64} {M_had : Nat → Int32} {M_told : Nat → Int64} {M_first : Nat → Int64} {M_second : Nat → Int64} {M_node : Nat → Int64} {M_nodeVariable : Nat → Int32} {M_nodeLow : Nat → Int32} {M_nodeHigh : Nat → Int32} {M_wait : Nat → Int32}  {k : Int32 → Int32 → (Nat → Int64) → (Nat → Int32) → Prop} {k62 : Int32 → Int32 → Prop} (C0 : CX p s m args meth c b_M_nodeOf 6 (some .int) R_M "nodeOf" D ca tp A) :
    ∀ (n : Nat) (x1 : Int32) (x2 : Int32) (x3 : Int32) {H : Heap} {locs : List Loc} {ls : Array Slot}, p_M_nodeOf_L6 M_nodes M_second M_node M_nodeVariable k62 n x1 x2 x3 → WH D A s (WM am ca M_clauses M_given M_end M_taped M_size M_at M_to M_sort M_worth M_faultKind M_faultPlace M_isTold M_nodes M_plain M_minus M_block M_left M_right M_pivot M_live M_needed M_label M_tape M_of M_kept M_had M_told M_first M_second M_node M_nodeVariable M_nodeLow M_nodeHigh M_wait) H locs → lv_has ls 6 [(0, .ref (am 0)), (1, .int x1), (2, .int x2), (3, .int x3)] →
      (∀ (x1 : Int32) (x2 : Int32) (H : Heap) (locs : List Loc) (ls : Array Slot), k62 x1 x2 → WH D A s (WM am ca M_clauses M_given M_end M_taped M_size M_at M_to M_sort M_worth M_faultKind M_faultPlace M_isTold M_nodes M_plain M_minus M_block M_left M_right M_pivot M_live M_needed M_label M_tape M_of M_kept M_had M_told M_first M_second M_node M_nodeVariable M_nodeLow M_nodeHigh M_wait) H locs → lv_has ls 6 [(0, .ref (am 0)), (1, .int x1), (2, .int x2)] → W p l e rm_M_nodeOf s m args below meth c H locs 0 0 (QI D A below args s (fun r (u : Int32 × (Nat → Int64) × (Nat → Int32)) => k r u.1 u.2.1 u.2.2) (fun (u : Int32 × (Nat → Int64) × (Nat → Int32)) => WM am ca M_clauses M_given M_end M_taped M_size M_at M_to M_sort M_worth M_faultKind M_faultPlace M_isTold u.1 M_plain M_minus M_block M_left M_right M_pivot M_live M_needed M_label M_tape M_of M_kept M_had M_told M_first M_second u.2.1 u.2.2 M_nodeLow M_nodeHigh M_wait) 0 0) (F0 m 62 ls [])) →
      W p l e rm_M_nodeOf s m args below meth c H locs 0 0 (QI D A below args s (fun r (u : Int32 × (Nat → Int64) × (Nat → Int32)) => k r u.1 u.2.1 u.2.2) (fun (u : Int32 × (Nat → Int64) × (Nat → Int32)) => WM am ca M_clauses M_given M_end M_taped M_size M_at M_to M_sort M_worth M_faultKind M_faultPlace M_isTold u.1 M_plain M_minus M_block M_left M_right M_pivot M_live M_needed M_label M_tape M_of M_kept M_had M_told M_first M_second u.2.1 u.2.2 M_nodeLow M_nodeHigh M_wait) 0 0) (F0 m 6 ls []) := by
  have hx := C0.1
  have hb := C0.2.1
  intro n
  induction n with
  | zero =>
    intro x1 x2 x3 H locs ls h
    exact False.elim h
  | succ n ih =>
    intro x1 x2 x3 H locs ls h hw hl h62
    unfold p_M_nodeOf_L6 at h
    refine lv_iload_n hx hb d_M_nodeOf_6 rfl (lv_at hl 3 rfl) ?_
    refine lv_bipush (v := 16) hx hb d_M_nodeOf_7 (by decide) ?_
    refine lv_icmp_ge (tgt := 62) hx hb d_M_nodeOf_9 (by decide) (fun c_1 => ?_) (fun c_1 => ?_)
    · have h := h.1 c_1
      exact h62 _ _ _ _ _ h hw (lv_sub hl [0, 1, 2] rfl)
    · have h := h.2 c_1
      refine lv_iload_n hx hb d_M_nodeOf_12 rfl (lv_at hl 1 rfl) ?_
      refine lv_if_eq (tgt := 31) hx hb d_M_nodeOf_13 (by decide) (fun c_2 => ?_) (fun c_2 => ?_)
      · have h := h.1 c_2
        refine b_M_nodeOf_J31 C0 _ _ _ _ _ h hw (lv_sub hl [0, 2, 3] rfl) (fun _ _ _ H locs ls h hw hl => ih _ _ _ h hw hl h62)
      · have h := h.2 c_2
        refine lv_aload_n hx hb d_M_nodeOf_16 rfl (lv_at hl 0 rfl) ?_
        refine x_get C0 hw 0 rfl rfl i_M 27 (by decide) wm_752 rfl rfl d_M_nodeOf_17 ?_
        refine lv_iload_n hx hb d_M_nodeOf_20 rfl (lv_at hl 3 rfl) ?_
        obtain ⟨hi_6, h⟩ := h
        refine x_lald C0 hw 16 rfl hi_6 d_M_nodeOf_21 ?_
        refine lv_lconst (v := 0) hx hb d_M_nodeOf_22 (by decide) ?_
        refine W.lcmp hx hb d_M_nodeOf_23 ?_
        refine lv_if_ne (tgt := 31) hx hb d_M_nodeOf_24 (by decide) (fun c_7 => ?_) (fun c_7 => ?_)
        · have h := h.1 c_7
          refine b_M_nodeOf_J31 C0 _ _ _ _ _ h hw (lv_sub hl [0, 2, 3] rfl) (fun _ _ _ H locs ls h hw hl => ih _ _ _ h hw hl h62)
        · have h := h.2 c_7
          refine lv_iconst (v := 1) hx hb d_M_nodeOf_27 (by decide) ?_
          refine lv_goto (tgt := 32) hx hb d_M_nodeOf_28 (by decide) ?_
          refine b_M_nodeOf_J32 C0 _ _ _ _ _ _ h hw (lv_sub hl [0, 2, 3] rfl) (fun _ _ _ H locs ls h hw hl => ih _ _ _ h hw hl h62)
set_option maxHeartbeats 4000000 in
set_option maxRecDepth 100000 in
theorem b_M_nodeOf_L98 {p : Program} {l : Launch} {e : Env} {s : State} {m : MethodId} {args : Array Value} {below : List Frame} {meth : Method} {c : Code} {D : va_G} {ca : Nat → ClassId} {tp : Nat} {A : Nat → Prop} {am : Nat → Nat} {M_clauses : Int32} {M_given : Int32} {M_end : Int32} {M_taped : Int32} {M_size : Int32} {M_at : Int32} {M_to : Int32} {M_sort : Int32} {M_worth : Int32} {M_faultKind : Int32} {M_faultPlace : Int32} {M_isTold : Int32} {M_nodes : Int32} {M_plain : Nat → Int32} {M_minus : Nat → Int32} {M_block : Nat → Int32} {M_left : Nat → Int32} {M_right : Nat → Int32} {M_pivot : Nat → Int32} {M_live : Nat → Int32} {M_needed : Nat → Int32} {M_label : Nat → Int32} {M_tape : Nat → Int32} {M_of : Nat → Int64} {M_kept : Nat → Int64} {M_had : Nat → Int32} {M_told : Nat → Int64} {M_first : Nat → Int64} {M_second : Nat → Int64} {M_node : Nat → Int64} {M_nodeVariable : Nat → Int32} {M_nodeLow : Nat → Int32} {M_nodeHigh : Nat → Int32} {M_wait : Nat → Int32} {x3 : Int32} {k : Int32 → Int32 → (Nat → Int64) → (Nat → Int32) → Prop} {k146 : Int32 → Prop} (C0 : CX p s m args meth c b_M_nodeOf 6 (some .int) R_M "nodeOf" D ca tp A) :
    ∀ (n : Nat) (x4 : Int32) (x5 : Int32) {H : Heap} {locs : List Loc} {ls : Array Slot}, p_M_nodeOf_L98 M_second M_node x3 k146 n x4 x5 → WH D A s (WM am ca M_clauses M_given M_end M_taped M_size M_at M_to M_sort M_worth M_faultKind M_faultPlace M_isTold M_nodes M_plain M_minus M_block M_left M_right M_pivot M_live M_needed M_label M_tape M_of M_kept M_had M_told M_first M_second M_node M_nodeVariable M_nodeLow M_nodeHigh M_wait) H locs → lv_has ls 6 [(0, .ref (am 0)), (3, .int x3), (4, .int x4), (5, .int x5)] →
      (∀ (x4 : Int32) (H : Heap) (locs : List Loc) (ls : Array Slot), k146 x4 → WH D A s (WM am ca M_clauses M_given M_end M_taped M_size M_at M_to M_sort M_worth M_faultKind M_faultPlace M_isTold M_nodes M_plain M_minus M_block M_left M_right M_pivot M_live M_needed M_label M_tape M_of M_kept M_had M_told M_first M_second M_node M_nodeVariable M_nodeLow M_nodeHigh M_wait) H locs → lv_has ls 6 [(0, .ref (am 0)), (3, .int x3), (4, .int x4)] → W p l e rm_M_nodeOf s m args below meth c H locs 0 0 (QI D A below args s (fun r (u : Int32 × (Nat → Int64) × (Nat → Int32)) => k r u.1 u.2.1 u.2.2) (fun (u : Int32 × (Nat → Int64) × (Nat → Int32)) => WM am ca M_clauses M_given M_end M_taped M_size M_at M_to M_sort M_worth M_faultKind M_faultPlace M_isTold u.1 M_plain M_minus M_block M_left M_right M_pivot M_live M_needed M_label M_tape M_of M_kept M_had M_told M_first M_second u.2.1 u.2.2 M_nodeLow M_nodeHigh M_wait) 0 0) (F0 m 146 ls [])) →
      W p l e rm_M_nodeOf s m args below meth c H locs 0 0 (QI D A below args s (fun r (u : Int32 × (Nat → Int64) × (Nat → Int32)) => k r u.1 u.2.1 u.2.2) (fun (u : Int32 × (Nat → Int64) × (Nat → Int32)) => WM am ca M_clauses M_given M_end M_taped M_size M_at M_to M_sort M_worth M_faultKind M_faultPlace M_isTold u.1 M_plain M_minus M_block M_left M_right M_pivot M_live M_needed M_label M_tape M_of M_kept M_had M_told M_first M_second u.2.1 u.2.2 M_nodeLow M_nodeHigh M_wait) 0 0) (F0 m 98 ls []) := by
  have hx := C0.1
  have hb := C0.2.1
  intro n
  induction n with
  | zero =>
    intro x4 x5 H locs ls h
    exact False.elim h
  | succ n ih =>
    intro x4 x5 H locs ls h hw hl h146
    unfold p_M_nodeOf_L98 at h
    refine lv_iload hx hb d_M_nodeOf_98 (lv_at hl 3 rfl) ?_
    refine lv_bipush (v := 16) hx hb d_M_nodeOf_100 (by decide) ?_
    refine lv_icmp_ge (tgt := 146) hx hb d_M_nodeOf_102 (by decide) (fun c_14 => ?_) (fun c_14 => ?_)
    · have h := h.1 c_14
      exact h146 _ _ _ _ h hw (lv_sub hl [0, 1, 2] rfl)
    · have h := h.2 c_14
      refine lv_iload hx hb d_M_nodeOf_105 (lv_at hl 2 rfl) ?_
      refine lv_if_eq (tgt := 137) hx hb d_M_nodeOf_107 (by decide) (fun c_15 => ?_) (fun c_15 => ?_)
      · have h := h.1 c_15
        refine lv_iconst (v := 0) hx hb d_M_nodeOf_137 (by decide) ?_
        refine lv_istore (lv' := [(4, .int (0 : Int32)), (0, .ref (am 0)), (3, .int x3), (5, .int x5)]) hx hb d_M_nodeOf_138 hl (by decide) rfl (fun ls hl => ?_)
        refine lv_iinc (v := (x5 + 1)) (lv' := [(5, .int (x5 + 1)), (4, .int (0 : Int32)), (0, .ref (am 0)), (3, .int x3)]) hx hb d_M_nodeOf_140 hl (k := 3) rfl rfl (by decide) rfl (fun ls hl => ?_)
        refine lv_goto (tgt := 98) hx hb d_M_nodeOf_143 (by decide) ?_
        exact ih _ _ h hw (lv_sub hl [2, 3, 1, 0] rfl) h146
      · have h := h.2 c_15
        refine lv_aload_n hx hb d_M_nodeOf_110 rfl (lv_at hl 0 rfl) ?_
        refine x_get C0 hw 0 rfl rfl i_M 28 (by decide) wm_753 rfl rfl d_M_nodeOf_111 ?_
        refine lv_bipush (v := 16) hx hb d_M_nodeOf_114 (by decide) ?_
        refine lv_iload_n hx hb d_M_nodeOf_116 rfl (lv_at hl 1 rfl) ?_
        refine lv_imul hx hb d_M_nodeOf_117 ?_
        refine lv_iload hx hb d_M_nodeOf_118 (lv_at hl 3 rfl) ?_
        refine lv_iadd hx hb d_M_nodeOf_120 ?_
        obtain ⟨hi_16, h⟩ := h
        refine x_lald C0 hw 17 rfl hi_16 d_M_nodeOf_121 ?_
        refine lv_aload_n hx hb d_M_nodeOf_122 rfl (lv_at hl 0 rfl) ?_
        refine x_get C0 hw 0 rfl rfl i_M 27 (by decide) wm_752 rfl rfl d_M_nodeOf_123 ?_
        refine lv_iload hx hb d_M_nodeOf_126 (lv_at hl 3 rfl) ?_
        obtain ⟨hi_17, h⟩ := h
        refine x_lald C0 hw 16 rfl hi_17 d_M_nodeOf_128 ?_
        refine W.lcmp hx hb d_M_nodeOf_129 ?_
        refine lv_if_ne (tgt := 137) hx hb d_M_nodeOf_130 (by decide) (fun c_18 => ?_) (fun c_18 => ?_)
        · have h := h.1 c_18
          refine lv_iconst (v := 0) hx hb d_M_nodeOf_137 (by decide) ?_
          refine lv_istore (lv' := [(4, .int (0 : Int32)), (0, .ref (am 0)), (3, .int x3), (5, .int x5)]) hx hb d_M_nodeOf_138 hl (by decide) rfl (fun ls hl => ?_)
          refine lv_iinc (v := (x5 + 1)) (lv' := [(5, .int (x5 + 1)), (4, .int (0 : Int32)), (0, .ref (am 0)), (3, .int x3)]) hx hb d_M_nodeOf_140 hl (k := 3) rfl rfl (by decide) rfl (fun ls hl => ?_)
          refine lv_goto (tgt := 98) hx hb d_M_nodeOf_143 (by decide) ?_
          exact ih _ _ h hw (lv_sub hl [2, 3, 1, 0] rfl) h146
        · have h := h.2 c_18
          refine lv_iconst (v := 1) hx hb d_M_nodeOf_133 (by decide) ?_
          refine lv_goto (tgt := 138) hx hb d_M_nodeOf_134 (by decide) ?_
          refine lv_istore (lv' := [(4, .int (1 : Int32)), (0, .ref (am 0)), (3, .int x3), (5, .int x5)]) hx hb d_M_nodeOf_138 hl (by decide) rfl (fun ls hl => ?_)
          refine lv_iinc (v := (x5 + 1)) (lv' := [(5, .int (x5 + 1)), (4, .int (1 : Int32)), (0, .ref (am 0)), (3, .int x3)]) hx hb d_M_nodeOf_140 hl (k := 3) rfl rfl (by decide) rfl (fun ls hl => ?_)
          refine lv_goto (tgt := 98) hx hb d_M_nodeOf_143 (by decide) ?_
          exact ih _ _ h hw (lv_sub hl [2, 3, 1, 0] rfl) h146
set_option maxHeartbeats 4000000 in
set_option maxRecDepth 100000 in
theorem b_M_nodeOf_L84 {p : Program} {l : Launch} {e : Env} {s : State} {m : MethodId} {args : Array Value} {below : List Frame} {meth : Method} {c : Code} {D : va_G} {ca : Nat → ClassId} {tp : Nat} {A : Nat → Prop} {am : Nat → Nat} {M_clauses : Int32} {M_given : Int32} {M_end : Int32} {M_taped : Int32} {M_size : Int32} {M_at : Int32} {M_to : Int32} {M_sort : Int32} {M_worth : Int32} {M_faultKind : Int32} {M_faultPlace : Int32} {M_isTold : Int32} {M_nodes : Int32} {M_plain : Nat → Int32} {M_minus : Nat → Int32} {M_block : Nat → Int32} {M_left : Nat → Int32} {M_right : Nat → Int32} {M_pivot : Nat → Int32} {M_live : Nat → Int32} {M_needed : Nat → Int32} {M_label : Nat → Int32} {M_tape : Nat → Int32} {M_of : Nat → Int64} {M_kept : Nat → Int64} {M_had : Nat → Int32} {M_told : Nat → Int64} {M_first : Nat → Int64} {M_second : Nat → Int64} {M_node : Nat → Int64} {M_nodeVariable : Nat → Int32} {M_nodeLow : Nat → Int32} {M_nodeHigh : Nat → Int32} {M_wait : Nat → Int32}  {k : Int32 → Int32 → (Nat → Int64) → (Nat → Int32) → Prop} {k159 : Prop} (C0 : CX p s m args meth c b_M_nodeOf 6 (some .int) R_M "nodeOf" D ca tp A) :
    ∀ (n : Nat) (x3 : Int32) {H : Heap} {locs : List Loc} {ls : Array Slot}, p_M_nodeOf_L84 M_nodes M_second M_node M_nodeVariable k k159 n x3 → WH D A s (WM am ca M_clauses M_given M_end M_taped M_size M_at M_to M_sort M_worth M_faultKind M_faultPlace M_isTold M_nodes M_plain M_minus M_block M_left M_right M_pivot M_live M_needed M_label M_tape M_of M_kept M_had M_told M_first M_second M_node M_nodeVariable M_nodeLow M_nodeHigh M_wait) H locs → lv_has ls 6 [(0, .ref (am 0)), (3, .int x3)] →
      (∀ (H : Heap) (locs : List Loc) (ls : Array Slot), k159 → WH D A s (WM am ca M_clauses M_given M_end M_taped M_size M_at M_to M_sort M_worth M_faultKind M_faultPlace M_isTold M_nodes M_plain M_minus M_block M_left M_right M_pivot M_live M_needed M_label M_tape M_of M_kept M_had M_told M_first M_second M_node M_nodeVariable M_nodeLow M_nodeHigh M_wait) H locs → lv_has ls 6 [(0, .ref (am 0))] → W p l e rm_M_nodeOf s m args below meth c H locs 0 0 (QI D A below args s (fun r (u : Int32 × (Nat → Int64) × (Nat → Int32)) => k r u.1 u.2.1 u.2.2) (fun (u : Int32 × (Nat → Int64) × (Nat → Int32)) => WM am ca M_clauses M_given M_end M_taped M_size M_at M_to M_sort M_worth M_faultKind M_faultPlace M_isTold u.1 M_plain M_minus M_block M_left M_right M_pivot M_live M_needed M_label M_tape M_of M_kept M_had M_told M_first M_second u.2.1 u.2.2 M_nodeLow M_nodeHigh M_wait) 0 0) (F0 m 159 ls [])) →
      W p l e rm_M_nodeOf s m args below meth c H locs 0 0 (QI D A below args s (fun r (u : Int32 × (Nat → Int64) × (Nat → Int32)) => k r u.1 u.2.1 u.2.2) (fun (u : Int32 × (Nat → Int64) × (Nat → Int32)) => WM am ca M_clauses M_given M_end M_taped M_size M_at M_to M_sort M_worth M_faultKind M_faultPlace M_isTold u.1 M_plain M_minus M_block M_left M_right M_pivot M_live M_needed M_label M_tape M_of M_kept M_had M_told M_first M_second u.2.1 u.2.2 M_nodeLow M_nodeHigh M_wait) 0 0) (F0 m 84 ls []) := by
  have hx := C0.1
  have hb := C0.2.1
  intro n
  induction n with
  | zero =>
    intro x3 H locs ls h
    exact False.elim h
  | succ n ih =>
    intro x3 H locs ls h hw hl h159
    unfold p_M_nodeOf_L84 at h
    refine lv_iload_n hx hb d_M_nodeOf_84 rfl (lv_at hl 1 rfl) ?_
    refine lv_aload_n hx hb d_M_nodeOf_85 rfl (lv_at hl 0 rfl) ?_
    refine x_get C0 hw 0 rfl rfl i_M 32 (by decide) wm_757 rfl rfl d_M_nodeOf_86 ?_
    refine lv_icmp_ge (tgt := 159) hx hb d_M_nodeOf_89 (by decide) (fun c_13 => ?_) (fun c_13 => ?_)
    · have h := h.1 c_13
      exact h159 _ _ _ h hw (lv_sub hl [0] rfl)
    · have h := h.2 c_13
      refine lv_iconst (v := 1) hx hb d_M_nodeOf_92 (by decide) ?_
      refine lv_istore (lv' := [(4, .int (1 : Int32)), (0, .ref (am 0)), (3, .int x3)]) hx hb d_M_nodeOf_93 hl (by decide) rfl (fun ls hl => ?_)
      refine lv_iconst (v := 0) hx hb d_M_nodeOf_95 (by decide) ?_
      refine lv_istore (lv' := [(5, .int (0 : Int32)), (4, .int (1 : Int32)), (0, .ref (am 0)), (3, .int x3)]) hx hb d_M_nodeOf_96 hl (by decide) rfl (fun ls hl => ?_)
      obtain ⟨j_21, h⟩ := h
      refine b_M_nodeOf_L98 C0 _ _ _ h hw (lv_sub hl [2, 3, 1, 0] rfl) (fun x4_19 H locs ls h hw hl => ?_)
      refine lv_iload hx hb d_M_nodeOf_146 (lv_at hl 2 rfl) ?_
      refine lv_if_eq (tgt := 153) hx hb d_M_nodeOf_148 (by decide) (fun c_20 => ?_) (fun c_20 => ?_)
      · have h := h.1 c_20
        refine lv_iinc (v := (x3 + 1)) (lv' := [(3, .int (x3 + 1)), (0, .ref (am 0)), (4, .int x4_19)]) hx hb d_M_nodeOf_153 hl (k := 1) rfl rfl (by decide) rfl (fun ls hl => ?_)
        refine lv_goto (tgt := 84) hx hb d_M_nodeOf_156 (by decide) ?_
        exact ih _ h hw (lv_sub hl [1, 0] rfl) h159
      · have h := h.2 c_20
        refine lv_iload_n hx hb d_M_nodeOf_151 rfl (lv_at hl 1 rfl) ?_
        exact x_iret C0 hw (M_nodes, M_node, M_nodeVariable) h rfl d_M_nodeOf_152
set_option maxHeartbeats 4000000 in
set_option maxRecDepth 100000 in
theorem b_M_nodeOf_L161 {p : Program} {l : Launch} {e : Env} {s : State} {m : MethodId} {args : Array Value} {below : List Frame} {meth : Method} {c : Code} {D : va_G} {ca : Nat → ClassId} {tp : Nat} {A : Nat → Prop} {am : Nat → Nat} {M_clauses : Int32} {M_given : Int32} {M_end : Int32} {M_taped : Int32} {M_size : Int32} {M_at : Int32} {M_to : Int32} {M_sort : Int32} {M_worth : Int32} {M_faultKind : Int32} {M_faultPlace : Int32} {M_isTold : Int32} {M_nodes : Int32} {M_plain : Nat → Int32} {M_minus : Nat → Int32} {M_block : Nat → Int32} {M_left : Nat → Int32} {M_right : Nat → Int32} {M_pivot : Nat → Int32} {M_live : Nat → Int32} {M_needed : Nat → Int32} {M_label : Nat → Int32} {M_tape : Nat → Int32} {M_of : Nat → Int64} {M_kept : Nat → Int64} {M_had : Nat → Int32} {M_told : Nat → Int64} {M_first : Nat → Int64} {M_second : Nat → Int64} {M_nodeVariable : Nat → Int32} {M_nodeLow : Nat → Int32} {M_nodeHigh : Nat → Int32} {M_wait : Nat → Int32}  {k : Int32 → Int32 → (Nat → Int64) → (Nat → Int32) → Prop} {k193 : (Nat → Int64) → Prop} (C0 : CX p s m args meth c b_M_nodeOf 6 (some .int) R_M "nodeOf" D ca tp A) :
    ∀ (n : Nat) (x3 : Int32) (M_node : Nat → Int64) {H : Heap} {locs : List Loc} {ls : Array Slot}, p_M_nodeOf_L161 M_nodes M_second k193 n x3 M_node → WH D A s (WM am ca M_clauses M_given M_end M_taped M_size M_at M_to M_sort M_worth M_faultKind M_faultPlace M_isTold M_nodes M_plain M_minus M_block M_left M_right M_pivot M_live M_needed M_label M_tape M_of M_kept M_had M_told M_first M_second M_node M_nodeVariable M_nodeLow M_nodeHigh M_wait) H locs → lv_has ls 6 [(0, .ref (am 0)), (3, .int x3)] →
      (∀ (M_node : Nat → Int64) (H : Heap) (locs : List Loc) (ls : Array Slot), k193 M_node → WH D A s (WM am ca M_clauses M_given M_end M_taped M_size M_at M_to M_sort M_worth M_faultKind M_faultPlace M_isTold M_nodes M_plain M_minus M_block M_left M_right M_pivot M_live M_needed M_label M_tape M_of M_kept M_had M_told M_first M_second M_node M_nodeVariable M_nodeLow M_nodeHigh M_wait) H locs → lv_has ls 6 [(0, .ref (am 0))] → W p l e rm_M_nodeOf s m args below meth c H locs 0 0 (QI D A below args s (fun r (u : Int32 × (Nat → Int64) × (Nat → Int32)) => k r u.1 u.2.1 u.2.2) (fun (u : Int32 × (Nat → Int64) × (Nat → Int32)) => WM am ca M_clauses M_given M_end M_taped M_size M_at M_to M_sort M_worth M_faultKind M_faultPlace M_isTold u.1 M_plain M_minus M_block M_left M_right M_pivot M_live M_needed M_label M_tape M_of M_kept M_had M_told M_first M_second u.2.1 u.2.2 M_nodeLow M_nodeHigh M_wait) 0 0) (F0 m 193 ls [])) →
      W p l e rm_M_nodeOf s m args below meth c H locs 0 0 (QI D A below args s (fun r (u : Int32 × (Nat → Int64) × (Nat → Int32)) => k r u.1 u.2.1 u.2.2) (fun (u : Int32 × (Nat → Int64) × (Nat → Int32)) => WM am ca M_clauses M_given M_end M_taped M_size M_at M_to M_sort M_worth M_faultKind M_faultPlace M_isTold u.1 M_plain M_minus M_block M_left M_right M_pivot M_live M_needed M_label M_tape M_of M_kept M_had M_told M_first M_second u.2.1 u.2.2 M_nodeLow M_nodeHigh M_wait) 0 0) (F0 m 161 ls []) := by
  have hx := C0.1
  have hb := C0.2.1
  intro n
  induction n with
  | zero =>
    intro x3 M_node H locs ls h
    exact False.elim h
  | succ n ih =>
    intro x3 M_node H locs ls h hw hl h193
    unfold p_M_nodeOf_L161 at h
    refine lv_iload_n hx hb d_M_nodeOf_161 rfl (lv_at hl 1 rfl) ?_
    refine lv_bipush (v := 16) hx hb d_M_nodeOf_162 (by decide) ?_
    refine lv_icmp_ge (tgt := 193) hx hb d_M_nodeOf_164 (by decide) (fun c_22 => ?_) (fun c_22 => ?_)
    · have h := h.1 c_22
      exact h193 _ _ _ _ h hw (lv_sub hl [0] rfl)
    · have h := h.2 c_22
      refine lv_aload_n hx hb d_M_nodeOf_167 rfl (lv_at hl 0 rfl) ?_
      refine x_get C0 hw 0 rfl rfl i_M 28 (by decide) wm_753 rfl rfl d_M_nodeOf_168 ?_
      refine lv_bipush (v := 16) hx hb d_M_nodeOf_171 (by decide) ?_
      refine lv_aload_n hx hb d_M_nodeOf_173 rfl (lv_at hl 0 rfl) ?_
      refine x_get C0 hw 0 rfl rfl i_M 32 (by decide) wm_757 rfl rfl d_M_nodeOf_174 ?_
      refine lv_imul hx hb d_M_nodeOf_177 ?_
      refine lv_iload_n hx hb d_M_nodeOf_178 rfl (lv_at hl 1 rfl) ?_
      refine lv_iadd hx hb d_M_nodeOf_179 ?_
      refine lv_aload_n hx hb d_M_nodeOf_180 rfl (lv_at hl 0 rfl) ?_
      refine x_get C0 hw 0 rfl rfl i_M 27 (by decide) wm_752 rfl rfl d_M_nodeOf_181 ?_
      refine lv_iload_n hx hb d_M_nodeOf_184 rfl (lv_at hl 1 rfl) ?_
      obtain ⟨hi_23, h⟩ := h
      refine x_lald C0 hw 16 rfl hi_23 d_M_nodeOf_185 ?_
      obtain ⟨hi_24, h⟩ := h
      refine x_last C0 hw 17 rfl hi_24 (ws' := WM am ca M_clauses M_given M_end M_taped M_size M_at M_to M_sort M_worth M_faultKind M_faultPlace M_isTold M_nodes M_plain M_minus M_block M_left M_right M_pivot M_live M_needed M_label M_tape M_of M_kept M_had M_told M_first M_second (vp_updL M_node (((16 : Int32) * M_nodes) + x3).toNatClampNeg (M_second x3.toNatClampNeg)) M_nodeVariable M_nodeLow M_nodeHigh M_wait) rfl d_M_nodeOf_186 (fun H locs hw => ?_)
      refine lv_iinc (v := (x3 + 1)) (lv' := [(3, .int (x3 + 1)), (0, .ref (am 0))]) hx hb d_M_nodeOf_187 hl (k := 1) rfl rfl (by decide) rfl (fun ls hl => ?_)
      refine lv_goto (tgt := 161) hx hb d_M_nodeOf_190 (by decide) ?_
      exact ih _ _ h hw (lv_sub hl [1, 0] rfl) h193
set_option maxHeartbeats 4000000 in
set_option maxRecDepth 100000 in
theorem c_M_nodeOf {l : Launch} {D : va_G} {ca : Nat → ClassId} {tp : Nat} {am : Nat → Nat} {M_clauses : Int32} {M_given : Int32} {M_end : Int32} {M_taped : Int32} {M_size : Int32} {M_at : Int32} {M_to : Int32} {M_sort : Int32} {M_worth : Int32} {M_faultKind : Int32} {M_faultPlace : Int32} {M_isTold : Int32} {M_nodes : Int32} {M_plain : Nat → Int32} {M_minus : Nat → Int32} {M_block : Nat → Int32} {M_left : Nat → Int32} {M_right : Nat → Int32} {M_pivot : Nat → Int32} {M_live : Nat → Int32} {M_needed : Nat → Int32} {M_label : Nat → Int32} {M_tape : Nat → Int32} {M_of : Nat → Int64} {M_kept : Nat → Int64} {M_had : Nat → Int32} {M_told : Nat → Int64} {M_first : Nat → Int64} {M_second : Nat → Int64} {M_node : Nat → Int64} {M_nodeVariable : Nat → Int32} {M_nodeLow : Nat → Int32} {M_nodeHigh : Nat → Int32} {M_wait : Nat → Int32}  {k : Int32 → Int32 → (Nat → Int64) → (Nat → Int32) → Prop} (h : p_M_nodeOf M_nodes M_second M_node M_nodeVariable k) :
    MTi l y_M_nodeOf b_M_nodeOf 6 (some .int) rm_M_nodeOf D ca tp [.ref (am 0)] (WM am ca M_clauses M_given M_end M_taped M_size M_at M_to M_sort M_worth M_faultKind M_faultPlace M_isTold M_nodes M_plain M_minus M_block M_left M_right M_pivot M_live M_needed M_label M_tape M_of M_kept M_had M_told M_first M_second M_node M_nodeVariable M_nodeLow M_nodeHigh M_wait)
      (fun r (u : Int32 × (Nat → Int64) × (Nat → Int32)) => k r u.1 u.2.1 u.2.2)
      (fun (u : Int32 × (Nat → Int64) × (Nat → Int32)) => WM am ca M_clauses M_given M_end M_taped M_size M_at M_to M_sort M_worth M_faultKind M_faultPlace M_isTold u.1 M_plain M_minus M_block M_left M_right M_pivot M_live M_needed M_label M_tape M_of M_kept M_had M_told M_first M_second u.2.1 u.2.2 M_nodeLow M_nodeHigh M_wait) 0 0 := by
  refine x_entryi (own := R_M) (nm := "nodeOf") (by decide) rfl rfl (Nat.le_of_ble_eq_true rfl) (fun p e s m below meth c A ls C0 hw hl => ?_)
  have hx := C0.1
  have hb := C0.2.1
  have hl : lv_has ls 6 [(0, .ref (am 0))] := hl
  unfold p_M_nodeOf at h
  refine lv_iconst (v := 1) hx hb d_M_nodeOf_0 (by decide) ?_
  refine lv_istore_n (lv' := [(1, .int (1 : Int32)), (0, .ref (am 0))]) hx hb d_M_nodeOf_1 rfl hl (by decide) rfl (fun ls hl => ?_)
  refine lv_iconst (v := 1) hx hb d_M_nodeOf_2 (by decide) ?_
  refine lv_istore_n (lv' := [(2, .int (1 : Int32)), (1, .int (1 : Int32)), (0, .ref (am 0))]) hx hb d_M_nodeOf_3 rfl hl (by decide) rfl (fun ls hl => ?_)
  refine lv_iconst (v := 0) hx hb d_M_nodeOf_4 (by decide) ?_
  refine lv_istore_n (lv' := [(3, .int (0 : Int32)), (2, .int (1 : Int32)), (1, .int (1 : Int32)), (0, .ref (am 0))]) hx hb d_M_nodeOf_5 rfl hl (by decide) rfl (fun ls hl => ?_)
  obtain ⟨j_31, h⟩ := h
  refine b_M_nodeOf_L6 C0 _ _ _ _ h hw (lv_sub hl [3, 2, 1, 0] rfl) (fun x1_8 x2_9 H locs ls h hw hl => ?_)
  refine lv_iload_n hx hb d_M_nodeOf_62 rfl (lv_at hl 1 rfl) ?_
  refine lv_if_ne (tgt := 70) hx hb d_M_nodeOf_63 (by decide) (fun c_10 => ?_) (fun c_10 => ?_)
  · have h := h.1 c_10
    refine lv_iload_n hx hb d_M_nodeOf_70 rfl (lv_at hl 1 rfl) ?_
    refine lv_if_eq (tgt := 79) hx hb d_M_nodeOf_71 (by decide) (fun c_11 => ?_) (fun c_11 => ?_)
    · have h := h.1 c_11
      refine lv_bipush (v := -3) hx hb d_M_nodeOf_79 (by decide) ?_
      exact x_iret C0 hw (M_nodes, M_node, M_nodeVariable) h rfl d_M_nodeOf_81
    · have h := h.2 c_11
      refine lv_bipush (v := -2) hx hb d_M_nodeOf_74 (by decide) ?_
      refine lv_goto (tgt := 81) hx hb d_M_nodeOf_76 (by decide) ?_
      exact x_iret C0 hw (M_nodes, M_node, M_nodeVariable) h rfl d_M_nodeOf_81
  · have h := h.2 c_10
    refine lv_iload_n hx hb d_M_nodeOf_66 rfl (lv_at hl 2 rfl) ?_
    refine lv_if_eq (tgt := 82) hx hb d_M_nodeOf_67 (by decide) (fun c_12 => ?_) (fun c_12 => ?_)
    · have h := h.1 c_12
      refine lv_iconst (v := 0) hx hb d_M_nodeOf_82 (by decide) ?_
      refine lv_istore_n (lv' := [(3, .int (0 : Int32)), (0, .ref (am 0)), (1, .int x1_8), (2, .int x2_9)]) hx hb d_M_nodeOf_83 rfl hl (by decide) rfl (fun ls hl => ?_)
      obtain ⟨j_29, h⟩ := h
      refine b_M_nodeOf_L84 C0 _ _ h hw (lv_sub hl [1, 0] rfl) (fun H locs ls h hw hl => ?_)
      refine lv_iconst (v := 0) hx hb d_M_nodeOf_159 (by decide) ?_
      refine lv_istore_n (lv' := [(3, .int (0 : Int32)), (0, .ref (am 0))]) hx hb d_M_nodeOf_160 rfl hl (by decide) rfl (fun ls hl => ?_)
      obtain ⟨j_28, h⟩ := h
      refine b_M_nodeOf_L161 C0 _ _ _ h hw (lv_sub hl [1, 0] rfl) (fun M_node_25 H locs ls h hw hl => ?_)
      refine lv_aload_n hx hb d_M_nodeOf_193 rfl (lv_at hl 0 rfl) ?_
      refine lv_dup hx hb d_M_nodeOf_194 rfl ?_
      refine x_get C0 hw 0 rfl rfl i_M 32 (by decide) wm_757 rfl rfl d_M_nodeOf_195 ?_
      refine lv_iconst (v := 1) hx hb d_M_nodeOf_198 (by decide) ?_
      refine lv_iadd hx hb d_M_nodeOf_199 ?_
      refine x_put C0 hw 0 rfl rfl i_M tk_M n_M 32 (by decide) wm_757 rfl rfl rfl rfl (Nat.le_of_ble_eq_true rfl) (ws' := WM am ca M_clauses M_given M_end M_taped M_size M_at M_to M_sort M_worth M_faultKind M_faultPlace M_isTold (M_nodes + (1 : Int32)) M_plain M_minus M_block M_left M_right M_pivot M_live M_needed M_label M_tape M_of M_kept M_had M_told M_first M_second M_node_25 M_nodeVariable M_nodeLow M_nodeHigh M_wait) rfl d_M_nodeOf_200 (fun H locs hw => ?_)
      refine lv_aload_n hx hb d_M_nodeOf_203 rfl (lv_at hl 0 rfl) ?_
      refine lv_aload_n hx hb d_M_nodeOf_204 rfl (lv_at hl 0 rfl) ?_
      refine x_get C0 hw 0 rfl rfl i_M 32 (by decide) wm_757 rfl rfl d_M_nodeOf_205 ?_
      refine lv_iconst (v := 1) hx hb d_M_nodeOf_208 (by decide) ?_
      refine lv_isub hx hb d_M_nodeOf_209 ?_
      refine x_callVi C0 hw hl (c_M_leastVariable h) g_M_leastVariable wm_952 ⟨wm_49, wm_954⟩ 0 rfl rfl rfl (As := [.int ((M_nodes + (1 : Int32)) - (1 : Int32))]) (rest := []) rfl rfl (Nat.le_of_ble_eq_true rfl) ⟨rfl, rfl⟩ ⟨Nat.le_of_ble_eq_true rfl, Nat.le_of_ble_eq_true rfl⟩ ⟨Nat.le_of_ble_eq_true rfl, Nat.le_of_ble_eq_true rfl⟩ d_M_nodeOf_210 (fun r_27 u H locs h hw => ?_)
      obtain ⟨M_nodeVariable_26, rfl⟩ : ∃ z, z = u := ⟨_, rfl⟩
      refine lv_pop hx hb d_M_nodeOf_213 rfl ?_
      refine lv_aload_n hx hb d_M_nodeOf_214 rfl (lv_at hl 0 rfl) ?_
      refine x_get C0 hw 0 rfl rfl i_M 32 (by decide) wm_757 rfl rfl d_M_nodeOf_215 ?_
      refine lv_iconst (v := 1) hx hb d_M_nodeOf_218 (by decide) ?_
      refine lv_isub hx hb d_M_nodeOf_219 ?_
      exact x_iret C0 hw ((M_nodes + (1 : Int32)), M_node_25, M_nodeVariable_26) h rfl d_M_nodeOf_220
    · have h := h.2 c_12
      refine lv_iload_n hx hb d_M_nodeOf_70 rfl (lv_at hl 1 rfl) ?_
      refine lv_if_eq (tgt := 79) hx hb d_M_nodeOf_71 (by decide) (fun c_30 => ?_) (fun c_30 => ?_)
      · have h := h.1 c_30
        refine lv_bipush (v := -3) hx hb d_M_nodeOf_79 (by decide) ?_
        exact x_iret C0 hw (M_nodes, M_node, M_nodeVariable) h rfl d_M_nodeOf_81
      · have h := h.2 c_30
        refine lv_bipush (v := -2) hx hb d_M_nodeOf_74 (by decide) ?_
        refine lv_goto (tgt := 81) hx hb d_M_nodeOf_76 (by decide) ?_
        exact x_iret C0 hw (M_nodes, M_node, M_nodeVariable) h rfl d_M_nodeOf_81
theorem g_M_draw : GY y_M_draw b_M_draw 6 none 0 := ⟨wm_947, wm_62, by decide +kernel, by decide +kernel, by decide +kernel⟩
def p_M_draw_L7 (M_told : Nat → Int64) (k31 : (Nat → Int64) → Prop) : Nat → Int32 → (Nat → Int64) → Prop
  | 0, _, _ => False
  | n + 1, x1, M_second =>
    (((16 : Int32) ≤ x1 → (k31 M_second)) ∧ (¬ (16 : Int32) ≤ x1 → (vp_in x1 16 ∧ (p_M_draw_L7 M_told k31 n (x1 + 1) (vp_updL M_second x1.toNatClampNeg (M_told x1.toNatClampNeg))))))
def p_M_draw_L93 (M_node : Nat → Int64) (M_nodeVariable : Nat → Int32) (x2 : Int32) (x3 : Int32) (k121 : (Nat → Int64) → Prop) : Nat → Int32 → (Nat → Int64) → Prop
  | 0, _, _ => False
  | n + 1, x4, M_second =>
    (((16 : Int32) ≤ x4 → (k121 M_second)) ∧ (¬ (16 : Int32) ≤ x4 → (p_M_side M_node M_nodeVariable x2 x4 x3 (fun (r_14 : Int64) => (vp_in x4 16 ∧ (p_M_draw_L93 M_node M_nodeVariable x2 x3 k121 n (x4 + 1) (vp_updL M_second x4.toNatClampNeg r_14)))))))
def p_M_draw_J156 (k56 : Int32 → Int32 → (Nat → Int64) → (Nat → Int64) → (Nat → Int32) → (Nat → Int32) → (Nat → Int32) → (Nat → Int32) → Prop) (x1 : Int32) (x4 : Int32) (x5 : Int32) (M_nodes : Int32) (M_second : Nat → Int64) (M_node : Nat → Int64) (M_nodeVariable : Nat → Int32) (M_nodeLow : Nat → Int32) (M_nodeHigh : Nat → Int32) (M_wait : Nat → Int32) : Prop :=
  ((¬ M_nodes = x4 → (vp_in x1 640 ∧ (vp_in (x1 + (1 : Int32)) 640 ∧ (k56 (x1 + 2) M_nodes M_second M_node M_nodeVariable M_nodeLow M_nodeHigh (upd (upd M_wait x1.toNatClampNeg (((2 : Int32) * x5) + (1 : Int32))) (x1 + (1 : Int32)).toNatClampNeg ((2 : Int32) * x5)))))) ∧ (M_nodes = x4 → (k56 x1 M_nodes M_second M_node M_nodeVariable M_nodeLow M_nodeHigh M_wait)))
def p_M_draw_J89 (k56 : Int32 → Int32 → (Nat → Int64) → (Nat → Int64) → (Nat → Int32) → (Nat → Int32) → (Nat → Int32) → (Nat → Int32) → Prop) (x1 : Int32) (x2 : Int32) (t0 : Int32) (M_nodes : Int32) (M_second : Nat → Int64) (M_node : Nat → Int64) (M_nodeVariable : Nat → Int32) (M_nodeLow : Nat → Int32) (M_nodeHigh : Nat → Int32) (M_wait : Nat → Int32) : Prop :=
  (∃ j_27, p_M_draw_L93 M_node M_nodeVariable x2 t0 (fun (M_second_16 : Nat → Int64) => (p_M_nodeOf M_nodes M_second_16 M_node M_nodeVariable (fun (r_20 : Int32) (M_nodes_17 : Int32) (M_node_18 : Nat → Int64) (M_nodeVariable_19 : Nat → Int32) => ((t0 = 0 → (vp_in x2 300 ∧ (p_M_draw_J156 k56 x1 M_nodes r_20 M_nodes_17 M_second_16 M_node_18 M_nodeVariable_19 (upd M_nodeLow x2.toNatClampNeg r_20) M_nodeHigh M_wait))) ∧ (¬ t0 = 0 → (vp_in x2 300 ∧ (p_M_draw_J156 k56 x1 M_nodes r_20 M_nodes_17 M_second_16 M_node_18 M_nodeVariable_19 M_nodeLow (upd M_nodeHigh x2.toNatClampNeg r_20) M_wait))))))) j_27 (0 : Int32) M_second)
def p_M_draw_L56 (k : Int32 → (Nat → Int64) → (Nat → Int64) → (Nat → Int32) → (Nat → Int32) → (Nat → Int32) → (Nat → Int32) → Prop) : Nat → Int32 → Int32 → (Nat → Int64) → (Nat → Int64) → (Nat → Int32) → (Nat → Int32) → (Nat → Int32) → (Nat → Int32) → Prop
  | 0, _, _, _, _, _, _, _, _ => False
  | n + 1, x1, M_nodes, M_second, M_node, M_nodeVariable, M_nodeLow, M_nodeHigh, M_wait =>
    ((x1 ≤ 0 → (k M_nodes M_second M_node M_nodeVariable M_nodeLow M_nodeHigh M_wait)) ∧ (¬ x1 ≤ 0 → (vp_in (x1 + (-1)) 640 ∧ (∀ v2_11 : Int32, v2_11 = ((M_wait (x1 + (-1)).toNatClampNeg) / (2 : Int32)) → ((¬ ((M_wait (x1 + (-1)).toNatClampNeg) - (M_wait (x1 + (-1)).toNatClampNeg) / (2 : Int32) * (2 : Int32)) = (1 : Int32) → (p_M_draw_J89 (p_M_draw_L56 k n) (x1 + (-1)) v2_11 (0 : Int32) M_nodes M_second M_node M_nodeVariable M_nodeLow M_nodeHigh M_wait)) ∧ (((M_wait (x1 + (-1)).toNatClampNeg) - (M_wait (x1 + (-1)).toNatClampNeg) / (2 : Int32) * (2 : Int32)) = (1 : Int32) → (p_M_draw_J89 (p_M_draw_L56 k n) (x1 + (-1)) v2_11 (1 : Int32) M_nodes M_second M_node M_nodeVariable M_nodeLow M_nodeHigh M_wait)))))))
def p_M_draw (M_told : Nat → Int64) (M_second : Nat → Int64) (M_node : Nat → Int64) (M_nodeVariable : Nat → Int32) (M_nodeLow : Nat → Int32) (M_nodeHigh : Nat → Int32) (M_wait : Nat → Int32) (k : Int32 → (Nat → Int64) → (Nat → Int64) → (Nat → Int32) → (Nat → Int32) → (Nat → Int32) → (Nat → Int32) → Prop) : Prop :=
  (∃ j_30, p_M_draw_L7 M_told (fun (M_second_3 : Nat → Int64) => (p_M_nodeOf (0 : Int32) M_second_3 M_node M_nodeVariable (fun (r_7 : Int32) (M_nodes_4 : Int32) (M_node_5 : Nat → Int64) (M_nodeVariable_6 : Nat → Int32) => ((¬ r_7 = 0 → (∃ j_28, p_M_draw_L56 k j_28 (0 : Int32) M_nodes_4 M_second_3 M_node_5 M_nodeVariable_6 M_nodeLow M_nodeHigh M_wait)) ∧ (r_7 = 0 → (∃ j_29, p_M_draw_L56 k j_29 (2 : Int32) M_nodes_4 M_second_3 M_node_5 M_nodeVariable_6 M_nodeLow M_nodeHigh (upd (upd M_wait (0 : Int32).toNatClampNeg (1 : Int32)) (1 : Int32).toNatClampNeg (0 : Int32)))))))) j_30 (0 : Int32) M_second)
abbrev rm_M_draw : Room := { frames := 4, cells := 0, slots := 0, locals := 100 }
set_option maxHeartbeats 4000000 in
set_option maxRecDepth 100000 in
theorem b_M_draw_L7 {p : Program} {l : Launch} {e : Env} {s : State} {m : MethodId} {args : Array Value} {below : List Frame} {meth : Method} {c : Code} {D : va_G} {ca : Nat → ClassId} {tp : Nat} {A : Nat → Prop} {am : Nat → Nat} {M_clauses : Int32} {M_given : Int32} {M_end : Int32} {M_taped : Int32} {M_size : Int32} {M_at : Int32} {M_to : Int32} {M_sort : Int32} {M_worth : Int32} {M_faultKind : Int32} {M_faultPlace : Int32} {M_isTold : Int32} {M_nodes : Int32} {M_plain : Nat → Int32} {M_minus : Nat → Int32} {M_block : Nat → Int32} {M_left : Nat → Int32} {M_right : Nat → Int32} {M_pivot : Nat → Int32} {M_live : Nat → Int32} {M_needed : Nat → Int32} {M_label : Nat → Int32} {M_tape : Nat → Int32} {M_of : Nat → Int64} {M_kept : Nat → Int64} {M_had : Nat → Int32} {M_told : Nat → Int64} {M_first : Nat → Int64} {M_node : Nat → Int64} {M_nodeVariable : Nat → Int32} {M_nodeLow : Nat → Int32} {M_nodeHigh : Nat → Int32} {M_wait : Nat → Int32}  {k : Int32 → (Nat → Int64) → (Nat → Int64) → (Nat → Int32) → (Nat → Int32) → (Nat → Int32) → (Nat → Int32) → Prop} {k31 : (Nat → Int64) → Prop} (C0 : CX p s m args meth c b_M_draw 6 none R_M "draw" D ca tp A) :
    ∀ (n : Nat) (x1 : Int32) (M_second : Nat → Int64) {H : Heap} {locs : List Loc} {ls : Array Slot}, p_M_draw_L7 M_told k31 n x1 M_second → WH D A s (WM am ca M_clauses M_given M_end M_taped M_size M_at M_to M_sort M_worth M_faultKind M_faultPlace M_isTold M_nodes M_plain M_minus M_block M_left M_right M_pivot M_live M_needed M_label M_tape M_of M_kept M_had M_told M_first M_second M_node M_nodeVariable M_nodeLow M_nodeHigh M_wait) H locs → lv_has ls 6 [(0, .ref (am 0)), (1, .int x1)] →
      (∀ (M_second : Nat → Int64) (H : Heap) (locs : List Loc) (ls : Array Slot), k31 M_second → WH D A s (WM am ca M_clauses M_given M_end M_taped M_size M_at M_to M_sort M_worth M_faultKind M_faultPlace M_isTold M_nodes M_plain M_minus M_block M_left M_right M_pivot M_live M_needed M_label M_tape M_of M_kept M_had M_told M_first M_second M_node M_nodeVariable M_nodeLow M_nodeHigh M_wait) H locs → lv_has ls 6 [(0, .ref (am 0))] → W p l e rm_M_draw s m args below meth c H locs 0 0 (QV D A below args s (fun (u : Int32 × (Nat → Int64) × (Nat → Int64) × (Nat → Int32) × (Nat → Int32) × (Nat → Int32) × (Nat → Int32)) => k u.1 u.2.1 u.2.2.1 u.2.2.2.1 u.2.2.2.2.1 u.2.2.2.2.2.1 u.2.2.2.2.2.2) (fun (u : Int32 × (Nat → Int64) × (Nat → Int64) × (Nat → Int32) × (Nat → Int32) × (Nat → Int32) × (Nat → Int32)) => WM am ca M_clauses M_given M_end M_taped M_size M_at M_to M_sort M_worth M_faultKind M_faultPlace M_isTold u.1 M_plain M_minus M_block M_left M_right M_pivot M_live M_needed M_label M_tape M_of M_kept M_had M_told M_first u.2.1 u.2.2.1 u.2.2.2.1 u.2.2.2.2.1 u.2.2.2.2.2.1 u.2.2.2.2.2.2) 0 0) (F0 m 31 ls [])) →
      W p l e rm_M_draw s m args below meth c H locs 0 0 (QV D A below args s (fun (u : Int32 × (Nat → Int64) × (Nat → Int64) × (Nat → Int32) × (Nat → Int32) × (Nat → Int32) × (Nat → Int32)) => k u.1 u.2.1 u.2.2.1 u.2.2.2.1 u.2.2.2.2.1 u.2.2.2.2.2.1 u.2.2.2.2.2.2) (fun (u : Int32 × (Nat → Int64) × (Nat → Int64) × (Nat → Int32) × (Nat → Int32) × (Nat → Int32) × (Nat → Int32)) => WM am ca M_clauses M_given M_end M_taped M_size M_at M_to M_sort M_worth M_faultKind M_faultPlace M_isTold u.1 M_plain M_minus M_block M_left M_right M_pivot M_live M_needed M_label M_tape M_of M_kept M_had M_told M_first u.2.1 u.2.2.1 u.2.2.2.1 u.2.2.2.2.1 u.2.2.2.2.2.1 u.2.2.2.2.2.2) 0 0) (F0 m 7 ls []) := by
  have hx := C0.1
  have hb := C0.2.1
  intro n
  induction n with
  | zero =>
    intro x1 M_second H locs ls h
    exact False.elim h
  | succ n ih =>
    intro x1 M_second H locs ls h hw hl h31
    unfold p_M_draw_L7 at h
    refine lv_iload_n hx hb d_M_draw_7 rfl (lv_at hl 1 rfl) ?_
    refine lv_bipush (v := 16) hx hb d_M_draw_8 (by decide) ?_
    refine lv_icmp_ge (tgt := 31) hx hb d_M_draw_10 (by decide) (fun c_1 => ?_) (fun c_1 => ?_)
    · have h := h.1 c_1
      exact h31 _ _ _ _ h hw (lv_sub hl [0] rfl)
    · have h := h.2 c_1
      refine lv_aload_n hx hb d_M_draw_13 rfl (lv_at hl 0 rfl) ?_
      refine x_get C0 hw 0 rfl rfl i_M 27 (by decide) wm_752 rfl rfl d_M_draw_14 ?_
      refine lv_iload_n hx hb d_M_draw_17 rfl (lv_at hl 1 rfl) ?_
      refine lv_aload_n hx hb d_M_draw_18 rfl (lv_at hl 0 rfl) ?_
      refine x_get C0 hw 0 rfl rfl i_M 24 (by decide) wm_749 rfl rfl d_M_draw_19 ?_
      refine lv_iload_n hx hb d_M_draw_22 rfl (lv_at hl 1 rfl) ?_
      obtain ⟨hi_2, h⟩ := h
      refine x_lald C0 hw 14 rfl hi_2 d_M_draw_23 ?_
      refine x_last C0 hw 16 rfl hi_2 (ws' := WM am ca M_clauses M_given M_end M_taped M_size M_at M_to M_sort M_worth M_faultKind M_faultPlace M_isTold M_nodes M_plain M_minus M_block M_left M_right M_pivot M_live M_needed M_label M_tape M_of M_kept M_had M_told M_first (vp_updL M_second x1.toNatClampNeg (M_told x1.toNatClampNeg)) M_node M_nodeVariable M_nodeLow M_nodeHigh M_wait) rfl d_M_draw_24 (fun H locs hw => ?_)
      refine lv_iinc (v := (x1 + 1)) (lv' := [(1, .int (x1 + 1)), (0, .ref (am 0))]) hx hb d_M_draw_25 hl (k := 1) rfl rfl (by decide) rfl (fun ls hl => ?_)
      refine lv_goto (tgt := 7) hx hb d_M_draw_28 (by decide) ?_
      exact ih _ _ h hw (lv_sub hl [1, 0] rfl) h31
set_option maxHeartbeats 4000000 in
set_option maxRecDepth 100000 in
theorem b_M_draw_L93 {p : Program} {l : Launch} {e : Env} {s : State} {m : MethodId} {args : Array Value} {below : List Frame} {meth : Method} {c : Code} {D : va_G} {ca : Nat → ClassId} {tp : Nat} {A : Nat → Prop} {am : Nat → Nat} {M_clauses : Int32} {M_given : Int32} {M_end : Int32} {M_taped : Int32} {M_size : Int32} {M_at : Int32} {M_to : Int32} {M_sort : Int32} {M_worth : Int32} {M_faultKind : Int32} {M_faultPlace : Int32} {M_isTold : Int32} {M_nodes : Int32} {M_plain : Nat → Int32} {M_minus : Nat → Int32} {M_block : Nat → Int32} {M_left : Nat → Int32} {M_right : Nat → Int32} {M_pivot : Nat → Int32} {M_live : Nat → Int32} {M_needed : Nat → Int32} {M_label : Nat → Int32} {M_tape : Nat → Int32} {M_of : Nat → Int64} {M_kept : Nat → Int64} {M_had : Nat → Int32} {M_told : Nat → Int64} {M_first : Nat → Int64} {M_node : Nat → Int64} {M_nodeVariable : Nat → Int32} {M_nodeLow : Nat → Int32} {M_nodeHigh : Nat → Int32} {M_wait : Nat → Int32} {x1 : Int32} {x2 : Int32} {x3 : Int32} {k : Int32 → (Nat → Int64) → (Nat → Int64) → (Nat → Int32) → (Nat → Int32) → (Nat → Int32) → (Nat → Int32) → Prop} {k121 : (Nat → Int64) → Prop} (C0 : CX p s m args meth c b_M_draw 6 none R_M "draw" D ca tp A) :
    ∀ (n : Nat) (x4 : Int32) (M_second : Nat → Int64) {H : Heap} {locs : List Loc} {ls : Array Slot}, p_M_draw_L93 M_node M_nodeVariable x2 x3 k121 n x4 M_second → WH D A s (WM am ca M_clauses M_given M_end M_taped M_size M_at M_to M_sort M_worth M_faultKind M_faultPlace M_isTold M_nodes M_plain M_minus M_block M_left M_right M_pivot M_live M_needed M_label M_tape M_of M_kept M_had M_told M_first M_second M_node M_nodeVariable M_nodeLow M_nodeHigh M_wait) H locs → lv_has ls 6 [(0, .ref (am 0)), (1, .int x1), (2, .int x2), (3, .int x3), (4, .int x4)] →
      (∀ (M_second : Nat → Int64) (H : Heap) (locs : List Loc) (ls : Array Slot), k121 M_second → WH D A s (WM am ca M_clauses M_given M_end M_taped M_size M_at M_to M_sort M_worth M_faultKind M_faultPlace M_isTold M_nodes M_plain M_minus M_block M_left M_right M_pivot M_live M_needed M_label M_tape M_of M_kept M_had M_told M_first M_second M_node M_nodeVariable M_nodeLow M_nodeHigh M_wait) H locs → lv_has ls 6 [(0, .ref (am 0)), (1, .int x1), (2, .int x2), (3, .int x3)] → W p l e rm_M_draw s m args below meth c H locs 0 0 (QV D A below args s (fun (u : Int32 × (Nat → Int64) × (Nat → Int64) × (Nat → Int32) × (Nat → Int32) × (Nat → Int32) × (Nat → Int32)) => k u.1 u.2.1 u.2.2.1 u.2.2.2.1 u.2.2.2.2.1 u.2.2.2.2.2.1 u.2.2.2.2.2.2) (fun (u : Int32 × (Nat → Int64) × (Nat → Int64) × (Nat → Int32) × (Nat → Int32) × (Nat → Int32) × (Nat → Int32)) => WM am ca M_clauses M_given M_end M_taped M_size M_at M_to M_sort M_worth M_faultKind M_faultPlace M_isTold u.1 M_plain M_minus M_block M_left M_right M_pivot M_live M_needed M_label M_tape M_of M_kept M_had M_told M_first u.2.1 u.2.2.1 u.2.2.2.1 u.2.2.2.2.1 u.2.2.2.2.2.1 u.2.2.2.2.2.2) 0 0) (F0 m 121 ls [])) →
      W p l e rm_M_draw s m args below meth c H locs 0 0 (QV D A below args s (fun (u : Int32 × (Nat → Int64) × (Nat → Int64) × (Nat → Int32) × (Nat → Int32) × (Nat → Int32) × (Nat → Int32)) => k u.1 u.2.1 u.2.2.1 u.2.2.2.1 u.2.2.2.2.1 u.2.2.2.2.2.1 u.2.2.2.2.2.2) (fun (u : Int32 × (Nat → Int64) × (Nat → Int64) × (Nat → Int32) × (Nat → Int32) × (Nat → Int32) × (Nat → Int32)) => WM am ca M_clauses M_given M_end M_taped M_size M_at M_to M_sort M_worth M_faultKind M_faultPlace M_isTold u.1 M_plain M_minus M_block M_left M_right M_pivot M_live M_needed M_label M_tape M_of M_kept M_had M_told M_first u.2.1 u.2.2.1 u.2.2.2.1 u.2.2.2.2.1 u.2.2.2.2.2.1 u.2.2.2.2.2.2) 0 0) (F0 m 93 ls []) := by
  have hx := C0.1
  have hb := C0.2.1
  intro n
  induction n with
  | zero =>
    intro x4 M_second H locs ls h
    exact False.elim h
  | succ n ih =>
    intro x4 M_second H locs ls h hw hl h121
    unfold p_M_draw_L93 at h
    refine lv_iload hx hb d_M_draw_93 (lv_at hl 4 rfl) ?_
    refine lv_bipush (v := 16) hx hb d_M_draw_95 (by decide) ?_
    refine lv_icmp_ge (tgt := 121) hx hb d_M_draw_97 (by decide) (fun c_13 => ?_) (fun c_13 => ?_)
    · have h := h.1 c_13
      exact h121 _ _ _ _ h hw (lv_sub hl [0, 1, 2, 3] rfl)
    · have h := h.2 c_13
      refine lv_aload_n hx hb d_M_draw_100 rfl (lv_at hl 0 rfl) ?_
      refine x_get C0 hw 0 rfl rfl i_M 27 (by decide) wm_752 rfl rfl d_M_draw_101 ?_
      refine lv_iload hx hb d_M_draw_104 (lv_at hl 4 rfl) ?_
      refine lv_aload_n hx hb d_M_draw_106 rfl (lv_at hl 0 rfl) ?_
      refine lv_iload_n hx hb d_M_draw_107 rfl (lv_at hl 2 rfl) ?_
      refine lv_iload hx hb d_M_draw_108 (lv_at hl 4 rfl) ?_
      refine lv_iload_n hx hb d_M_draw_110 rfl (lv_at hl 3 rfl) ?_
      refine x_callVl C0 hw hl (c_M_side h) g_M_side wm_956 ⟨wm_50, wm_958⟩ 0 rfl rfl rfl (As := [.int x2, .int x4, .int x3]) (rest := [.int x4, .ref (am 16)]) rfl rfl (Nat.le_of_ble_eq_true rfl) ⟨rfl, rfl⟩ ⟨Nat.le_of_ble_eq_true rfl, Nat.le_of_ble_eq_true rfl⟩ ⟨Nat.le_of_ble_eq_true rfl, Nat.le_of_ble_eq_true rfl⟩ d_M_draw_111 (fun r_14 u H locs h hw => ?_)
      obtain ⟨hi_15, h⟩ := h
      refine x_last C0 hw 16 rfl hi_15 (ws' := WM am ca M_clauses M_given M_end M_taped M_size M_at M_to M_sort M_worth M_faultKind M_faultPlace M_isTold M_nodes M_plain M_minus M_block M_left M_right M_pivot M_live M_needed M_label M_tape M_of M_kept M_had M_told M_first (vp_updL M_second x4.toNatClampNeg r_14) M_node M_nodeVariable M_nodeLow M_nodeHigh M_wait) rfl d_M_draw_114 (fun H locs hw => ?_)
      refine lv_iinc (v := (x4 + 1)) (lv' := [(4, .int (x4 + 1)), (0, .ref (am 0)), (1, .int x1), (2, .int x2), (3, .int x3)]) hx hb d_M_draw_115 hl (k := 4) rfl rfl (by decide) rfl (fun ls hl => ?_)
      refine lv_goto (tgt := 93) hx hb d_M_draw_118 (by decide) ?_
      exact ih _ _ h hw (lv_sub hl [1, 2, 3, 4, 0] rfl) h121
set_option maxHeartbeats 4000000 in
set_option maxRecDepth 100000 in
theorem b_M_draw_J156 {p : Program} {l : Launch} {e : Env} {s : State} {m : MethodId} {args : Array Value} {below : List Frame} {meth : Method} {c : Code} {D : va_G} {ca : Nat → ClassId} {tp : Nat} {A : Nat → Prop} {am : Nat → Nat} {M_clauses : Int32} {M_given : Int32} {M_end : Int32} {M_taped : Int32} {M_size : Int32} {M_at : Int32} {M_to : Int32} {M_sort : Int32} {M_worth : Int32} {M_faultKind : Int32} {M_faultPlace : Int32} {M_isTold : Int32} {M_plain : Nat → Int32} {M_minus : Nat → Int32} {M_block : Nat → Int32} {M_left : Nat → Int32} {M_right : Nat → Int32} {M_pivot : Nat → Int32} {M_live : Nat → Int32} {M_needed : Nat → Int32} {M_label : Nat → Int32} {M_tape : Nat → Int32} {M_of : Nat → Int64} {M_kept : Nat → Int64} {M_had : Nat → Int32} {M_told : Nat → Int64} {M_first : Nat → Int64}  {k : Int32 → (Nat → Int64) → (Nat → Int64) → (Nat → Int32) → (Nat → Int32) → (Nat → Int32) → (Nat → Int32) → Prop} {k56 : Int32 → Int32 → (Nat → Int64) → (Nat → Int64) → (Nat → Int32) → (Nat → Int32) → (Nat → Int32) → (Nat → Int32) → Prop} (C0 : CX p s m args meth c b_M_draw 6 none R_M "draw" D ca tp A) :
    ∀ (x1 : Int32) (x4 : Int32) (x5 : Int32) (M_nodes : Int32) (M_second : Nat → Int64) (M_node : Nat → Int64) (M_nodeVariable : Nat → Int32) (M_nodeLow : Nat → Int32) (M_nodeHigh : Nat → Int32) (M_wait : Nat → Int32) {H : Heap} {locs : List Loc} {ls : Array Slot}, p_M_draw_J156 k56 x1 x4 x5 M_nodes M_second M_node M_nodeVariable M_nodeLow M_nodeHigh M_wait → WH D A s (WM am ca M_clauses M_given M_end M_taped M_size M_at M_to M_sort M_worth M_faultKind M_faultPlace M_isTold M_nodes M_plain M_minus M_block M_left M_right M_pivot M_live M_needed M_label M_tape M_of M_kept M_had M_told M_first M_second M_node M_nodeVariable M_nodeLow M_nodeHigh M_wait) H locs → lv_has ls 6 [(0, .ref (am 0)), (1, .int x1), (4, .int x4), (5, .int x5)] →
      (∀ (x1 : Int32) (M_nodes : Int32) (M_second : Nat → Int64) (M_node : Nat → Int64) (M_nodeVariable : Nat → Int32) (M_nodeLow : Nat → Int32) (M_nodeHigh : Nat → Int32) (M_wait : Nat → Int32) (H : Heap) (locs : List Loc) (ls : Array Slot), k56 x1 M_nodes M_second M_node M_nodeVariable M_nodeLow M_nodeHigh M_wait → WH D A s (WM am ca M_clauses M_given M_end M_taped M_size M_at M_to M_sort M_worth M_faultKind M_faultPlace M_isTold M_nodes M_plain M_minus M_block M_left M_right M_pivot M_live M_needed M_label M_tape M_of M_kept M_had M_told M_first M_second M_node M_nodeVariable M_nodeLow M_nodeHigh M_wait) H locs → lv_has ls 6 [(0, .ref (am 0)), (1, .int x1)] → W p l e rm_M_draw s m args below meth c H locs 0 0 (QV D A below args s (fun (u : Int32 × (Nat → Int64) × (Nat → Int64) × (Nat → Int32) × (Nat → Int32) × (Nat → Int32) × (Nat → Int32)) => k u.1 u.2.1 u.2.2.1 u.2.2.2.1 u.2.2.2.2.1 u.2.2.2.2.2.1 u.2.2.2.2.2.2) (fun (u : Int32 × (Nat → Int64) × (Nat → Int64) × (Nat → Int32) × (Nat → Int32) × (Nat → Int32) × (Nat → Int32)) => WM am ca M_clauses M_given M_end M_taped M_size M_at M_to M_sort M_worth M_faultKind M_faultPlace M_isTold u.1 M_plain M_minus M_block M_left M_right M_pivot M_live M_needed M_label M_tape M_of M_kept M_had M_told M_first u.2.1 u.2.2.1 u.2.2.2.1 u.2.2.2.2.1 u.2.2.2.2.2.1 u.2.2.2.2.2.2) 0 0) (F0 m 56 ls [])) →
      W p l e rm_M_draw s m args below meth c H locs 0 0 (QV D A below args s (fun (u : Int32 × (Nat → Int64) × (Nat → Int64) × (Nat → Int32) × (Nat → Int32) × (Nat → Int32) × (Nat → Int32)) => k u.1 u.2.1 u.2.2.1 u.2.2.2.1 u.2.2.2.2.1 u.2.2.2.2.2.1 u.2.2.2.2.2.2) (fun (u : Int32 × (Nat → Int64) × (Nat → Int64) × (Nat → Int32) × (Nat → Int32) × (Nat → Int32) × (Nat → Int32)) => WM am ca M_clauses M_given M_end M_taped M_size M_at M_to M_sort M_worth M_faultKind M_faultPlace M_isTold u.1 M_plain M_minus M_block M_left M_right M_pivot M_live M_needed M_label M_tape M_of M_kept M_had M_told M_first u.2.1 u.2.2.1 u.2.2.2.1 u.2.2.2.2.1 u.2.2.2.2.2.1 u.2.2.2.2.2.2) 0 0) (F0 m 156 ls []) := by
  have hx := C0.1
  have hb := C0.2.1
  intro x1 x4 x5 M_nodes M_second M_node M_nodeVariable M_nodeLow M_nodeHigh M_wait H locs ls h hw hl h56
  unfold p_M_draw_J156 at h
  refine lv_aload_n hx hb d_M_draw_156 rfl (lv_at hl 0 rfl) ?_
  refine x_get C0 hw 0 rfl rfl i_M 32 (by decide) wm_757 rfl rfl d_M_draw_157 ?_
  refine lv_iload hx hb d_M_draw_160 (lv_at hl 2 rfl) ?_
  refine lv_icmp_ne (tgt := 168) hx hb d_M_draw_162 (by decide) (fun c_23 => ?_) (fun c_23 => ?_)
  · have h := h.1 c_23
    refine lv_aload_n hx hb d_M_draw_168 rfl (lv_at hl 0 rfl) ?_
    refine x_get C0 hw 0 rfl rfl i_M 33 (by decide) wm_758 rfl rfl d_M_draw_169 ?_
    refine lv_iload_n hx hb d_M_draw_172 rfl (lv_at hl 1 rfl) ?_
    refine lv_iconst (v := 2) hx hb d_M_draw_173 (by decide) ?_
    refine lv_iload hx hb d_M_draw_174 (lv_at hl 3 rfl) ?_
    refine lv_imul hx hb d_M_draw_176 ?_
    refine lv_iconst (v := 1) hx hb d_M_draw_177 (by decide) ?_
    refine lv_iadd hx hb d_M_draw_178 ?_
    obtain ⟨hi_24, h⟩ := h
    refine x_iast C0 hw 21 rfl hi_24 (ws' := WM am ca M_clauses M_given M_end M_taped M_size M_at M_to M_sort M_worth M_faultKind M_faultPlace M_isTold M_nodes M_plain M_minus M_block M_left M_right M_pivot M_live M_needed M_label M_tape M_of M_kept M_had M_told M_first M_second M_node M_nodeVariable M_nodeLow M_nodeHigh (upd M_wait x1.toNatClampNeg (((2 : Int32) * x5) + (1 : Int32)))) rfl d_M_draw_179 (fun H locs hw => ?_)
    refine lv_aload_n hx hb d_M_draw_180 rfl (lv_at hl 0 rfl) ?_
    refine x_get C0 hw 0 rfl rfl i_M 33 (by decide) wm_758 rfl rfl d_M_draw_181 ?_
    refine lv_iload_n hx hb d_M_draw_184 rfl (lv_at hl 1 rfl) ?_
    refine lv_iconst (v := 1) hx hb d_M_draw_185 (by decide) ?_
    refine lv_iadd hx hb d_M_draw_186 ?_
    refine lv_iconst (v := 2) hx hb d_M_draw_187 (by decide) ?_
    refine lv_iload hx hb d_M_draw_188 (lv_at hl 3 rfl) ?_
    refine lv_imul hx hb d_M_draw_190 ?_
    obtain ⟨hi_25, h⟩ := h
    refine x_iast C0 hw 21 rfl hi_25 (ws' := WM am ca M_clauses M_given M_end M_taped M_size M_at M_to M_sort M_worth M_faultKind M_faultPlace M_isTold M_nodes M_plain M_minus M_block M_left M_right M_pivot M_live M_needed M_label M_tape M_of M_kept M_had M_told M_first M_second M_node M_nodeVariable M_nodeLow M_nodeHigh (upd (upd M_wait x1.toNatClampNeg (((2 : Int32) * x5) + (1 : Int32))) (x1 + (1 : Int32)).toNatClampNeg ((2 : Int32) * x5))) rfl d_M_draw_191 (fun H locs hw => ?_)
    refine lv_iinc (v := (x1 + 2)) (lv' := [(1, .int (x1 + 2)), (0, .ref (am 0)), (4, .int x4), (5, .int x5)]) hx hb d_M_draw_192 hl (k := 1) rfl rfl (by decide) rfl (fun ls hl => ?_)
    refine lv_goto (tgt := 56) hx hb d_M_draw_195 (by decide) ?_
    exact h56 _ _ _ _ _ _ _ _ _ _ _ h hw (lv_sub hl [1, 0] rfl)
  · have h := h.2 c_23
    refine lv_goto (tgt := 56) hx hb d_M_draw_165 (by decide) ?_
    exact h56 _ _ _ _ _ _ _ _ _ _ _ h hw (lv_sub hl [0, 1] rfl)
set_option maxHeartbeats 4000000 in
set_option maxRecDepth 100000 in
theorem b_M_draw_J89 {p : Program} {l : Launch} {e : Env} {s : State} {m : MethodId} {args : Array Value} {below : List Frame} {meth : Method} {c : Code} {D : va_G} {ca : Nat → ClassId} {tp : Nat} {A : Nat → Prop} {am : Nat → Nat} {M_clauses : Int32} {M_given : Int32} {M_end : Int32} {M_taped : Int32} {M_size : Int32} {M_at : Int32} {M_to : Int32} {M_sort : Int32} {M_worth : Int32} {M_faultKind : Int32} {M_faultPlace : Int32} {M_isTold : Int32} {M_plain : Nat → Int32} {M_minus : Nat → Int32} {M_block : Nat → Int32} {M_left : Nat → Int32} {M_right : Nat → Int32} {M_pivot : Nat → Int32} {M_live : Nat → Int32} {M_needed : Nat → Int32} {M_label : Nat → Int32} {M_tape : Nat → Int32} {M_of : Nat → Int64} {M_kept : Nat → Int64} {M_had : Nat → Int32} {M_told : Nat → Int64} {M_first : Nat → Int64}  {k : Int32 → (Nat → Int64) → (Nat → Int64) → (Nat → Int32) → (Nat → Int32) → (Nat → Int32) → (Nat → Int32) → Prop} {k56 : Int32 → Int32 → (Nat → Int64) → (Nat → Int64) → (Nat → Int32) → (Nat → Int32) → (Nat → Int32) → (Nat → Int32) → Prop} (C0 : CX p s m args meth c b_M_draw 6 none R_M "draw" D ca tp A) :
    ∀ (x1 : Int32) (x2 : Int32) (t0 : Int32) (M_nodes : Int32) (M_second : Nat → Int64) (M_node : Nat → Int64) (M_nodeVariable : Nat → Int32) (M_nodeLow : Nat → Int32) (M_nodeHigh : Nat → Int32) (M_wait : Nat → Int32) {H : Heap} {locs : List Loc} {ls : Array Slot}, p_M_draw_J89 k56 x1 x2 t0 M_nodes M_second M_node M_nodeVariable M_nodeLow M_nodeHigh M_wait → WH D A s (WM am ca M_clauses M_given M_end M_taped M_size M_at M_to M_sort M_worth M_faultKind M_faultPlace M_isTold M_nodes M_plain M_minus M_block M_left M_right M_pivot M_live M_needed M_label M_tape M_of M_kept M_had M_told M_first M_second M_node M_nodeVariable M_nodeLow M_nodeHigh M_wait) H locs → lv_has ls 6 [(0, .ref (am 0)), (1, .int x1), (2, .int x2)] →
      (∀ (x1 : Int32) (M_nodes : Int32) (M_second : Nat → Int64) (M_node : Nat → Int64) (M_nodeVariable : Nat → Int32) (M_nodeLow : Nat → Int32) (M_nodeHigh : Nat → Int32) (M_wait : Nat → Int32) (H : Heap) (locs : List Loc) (ls : Array Slot), k56 x1 M_nodes M_second M_node M_nodeVariable M_nodeLow M_nodeHigh M_wait → WH D A s (WM am ca M_clauses M_given M_end M_taped M_size M_at M_to M_sort M_worth M_faultKind M_faultPlace M_isTold M_nodes M_plain M_minus M_block M_left M_right M_pivot M_live M_needed M_label M_tape M_of M_kept M_had M_told M_first M_second M_node M_nodeVariable M_nodeLow M_nodeHigh M_wait) H locs → lv_has ls 6 [(0, .ref (am 0)), (1, .int x1)] → W p l e rm_M_draw s m args below meth c H locs 0 0 (QV D A below args s (fun (u : Int32 × (Nat → Int64) × (Nat → Int64) × (Nat → Int32) × (Nat → Int32) × (Nat → Int32) × (Nat → Int32)) => k u.1 u.2.1 u.2.2.1 u.2.2.2.1 u.2.2.2.2.1 u.2.2.2.2.2.1 u.2.2.2.2.2.2) (fun (u : Int32 × (Nat → Int64) × (Nat → Int64) × (Nat → Int32) × (Nat → Int32) × (Nat → Int32) × (Nat → Int32)) => WM am ca M_clauses M_given M_end M_taped M_size M_at M_to M_sort M_worth M_faultKind M_faultPlace M_isTold u.1 M_plain M_minus M_block M_left M_right M_pivot M_live M_needed M_label M_tape M_of M_kept M_had M_told M_first u.2.1 u.2.2.1 u.2.2.2.1 u.2.2.2.2.1 u.2.2.2.2.2.1 u.2.2.2.2.2.2) 0 0) (F0 m 56 ls [])) →
      W p l e rm_M_draw s m args below meth c H locs 0 0 (QV D A below args s (fun (u : Int32 × (Nat → Int64) × (Nat → Int64) × (Nat → Int32) × (Nat → Int32) × (Nat → Int32) × (Nat → Int32)) => k u.1 u.2.1 u.2.2.1 u.2.2.2.1 u.2.2.2.2.1 u.2.2.2.2.2.1 u.2.2.2.2.2.2) (fun (u : Int32 × (Nat → Int64) × (Nat → Int64) × (Nat → Int32) × (Nat → Int32) × (Nat → Int32) × (Nat → Int32)) => WM am ca M_clauses M_given M_end M_taped M_size M_at M_to M_sort M_worth M_faultKind M_faultPlace M_isTold u.1 M_plain M_minus M_block M_left M_right M_pivot M_live M_needed M_label M_tape M_of M_kept M_had M_told M_first u.2.1 u.2.2.1 u.2.2.2.1 u.2.2.2.2.1 u.2.2.2.2.2.1 u.2.2.2.2.2.2) 0 0) (F0 m 89 ls [.int t0]) := by
  have hx := C0.1
  have hb := C0.2.1
  intro x1 x2 t0 M_nodes M_second M_node M_nodeVariable M_nodeLow M_nodeHigh M_wait H locs ls h hw hl h56
  unfold p_M_draw_J89 at h
  refine lv_istore_n (lv' := [(3, .int t0), (0, .ref (am 0)), (1, .int x1), (2, .int x2)]) hx hb d_M_draw_89 rfl hl (by decide) rfl (fun ls hl => ?_)
  refine lv_iconst (v := 0) hx hb d_M_draw_90 (by decide) ?_
  refine lv_istore (lv' := [(4, .int (0 : Int32)), (3, .int t0), (0, .ref (am 0)), (1, .int x1), (2, .int x2)]) hx hb d_M_draw_91 hl (by decide) rfl (fun ls hl => ?_)
  obtain ⟨j_27, h⟩ := h
  refine b_M_draw_L93 C0 _ _ _ h hw (lv_sub hl [2, 3, 4, 1, 0] rfl) (fun M_second_16 H locs ls h hw hl => ?_)
  refine lv_aload_n hx hb d_M_draw_121 rfl (lv_at hl 0 rfl) ?_
  refine x_get C0 hw 0 rfl rfl i_M 32 (by decide) wm_757 rfl rfl d_M_draw_122 ?_
  refine lv_istore (lv' := [(4, .int M_nodes), (0, .ref (am 0)), (1, .int x1), (2, .int x2), (3, .int t0)]) hx hb d_M_draw_125 hl (by decide) rfl (fun ls hl => ?_)
  refine lv_aload_n hx hb d_M_draw_127 rfl (lv_at hl 1 rfl) ?_
  refine x_callVi C0 hw hl (c_M_nodeOf h) g_M_nodeOf wm_948 ⟨wm_48, wm_950⟩ 0 rfl rfl rfl (As := []) (rest := []) rfl rfl (Nat.le_of_ble_eq_true rfl) ⟨rfl, rfl⟩ ⟨Nat.le_of_ble_eq_true rfl, Nat.le_of_ble_eq_true rfl⟩ ⟨Nat.le_of_ble_eq_true rfl, Nat.le_of_ble_eq_true rfl⟩ d_M_draw_128 (fun r_20 u H locs h hw => ?_)
  obtain ⟨M_nodes_17, M_node_18, M_nodeVariable_19⟩ := u
  refine lv_istore (lv' := [(5, .int r_20), (4, .int M_nodes), (0, .ref (am 0)), (1, .int x1), (2, .int x2), (3, .int t0)]) hx hb d_M_draw_131 hl (by decide) rfl (fun ls hl => ?_)
  refine lv_iload_n hx hb d_M_draw_133 rfl (lv_at hl 5 rfl) ?_
  refine lv_if_eq (tgt := 148) hx hb d_M_draw_134 (by decide) (fun c_21 => ?_) (fun c_21 => ?_)
  · have h := h.1 c_21
    refine lv_aload_n hx hb d_M_draw_148 rfl (lv_at hl 2 rfl) ?_
    refine x_get C0 hw 0 rfl rfl i_M 30 (by decide) wm_755 rfl rfl d_M_draw_149 ?_
    refine lv_iload_n hx hb d_M_draw_152 rfl (lv_at hl 4 rfl) ?_
    refine lv_iload hx hb d_M_draw_153 (lv_at hl 0 rfl) ?_
    obtain ⟨hi_22, h⟩ := h
    refine x_iast C0 hw 19 rfl hi_22 (ws' := WM am ca M_clauses M_given M_end M_taped M_size M_at M_to M_sort M_worth M_faultKind M_faultPlace M_isTold M_nodes_17 M_plain M_minus M_block M_left M_right M_pivot M_live M_needed M_label M_tape M_of M_kept M_had M_told M_first M_second_16 M_node_18 M_nodeVariable_19 (upd M_nodeLow x2.toNatClampNeg r_20) M_nodeHigh M_wait) rfl d_M_draw_155 (fun H locs hw => ?_)
    refine b_M_draw_J156 C0 _ _ _ _ _ _ _ _ _ _ h hw (lv_sub hl [2, 3, 1, 0] rfl) h56
  · have h := h.2 c_21
    refine lv_aload_n hx hb d_M_draw_137 rfl (lv_at hl 2 rfl) ?_
    refine x_get C0 hw 0 rfl rfl i_M 31 (by decide) wm_756 rfl rfl d_M_draw_138 ?_
    refine lv_iload_n hx hb d_M_draw_141 rfl (lv_at hl 4 rfl) ?_
    refine lv_iload hx hb d_M_draw_142 (lv_at hl 0 rfl) ?_
    obtain ⟨hi_26, h⟩ := h
    refine x_iast C0 hw 20 rfl hi_26 (ws' := WM am ca M_clauses M_given M_end M_taped M_size M_at M_to M_sort M_worth M_faultKind M_faultPlace M_isTold M_nodes_17 M_plain M_minus M_block M_left M_right M_pivot M_live M_needed M_label M_tape M_of M_kept M_had M_told M_first M_second_16 M_node_18 M_nodeVariable_19 M_nodeLow (upd M_nodeHigh x2.toNatClampNeg r_20) M_wait) rfl d_M_draw_144 (fun H locs hw => ?_)
    refine lv_goto (tgt := 156) hx hb d_M_draw_145 (by decide) ?_
    refine b_M_draw_J156 C0 _ _ _ _ _ _ _ _ _ _ h hw (lv_sub hl [2, 3, 1, 0] rfl) h56
set_option maxHeartbeats 4000000 in
set_option maxRecDepth 100000 in
theorem b_M_draw_L56 {p : Program} {l : Launch} {e : Env} {s : State} {m : MethodId} {args : Array Value} {below : List Frame} {meth : Method} {c : Code} {D : va_G} {ca : Nat → ClassId} {tp : Nat} {A : Nat → Prop} {am : Nat → Nat} {M_clauses : Int32} {M_given : Int32} {M_end : Int32} {M_taped : Int32} {M_size : Int32} {M_at : Int32} {M_to : Int32} {M_sort : Int32} {M_worth : Int32} {M_faultKind : Int32} {M_faultPlace : Int32} {M_isTold : Int32} {M_plain : Nat → Int32} {M_minus : Nat → Int32} {M_block : Nat → Int32} {M_left : Nat → Int32} {M_right : Nat → Int32} {M_pivot : Nat → Int32} {M_live : Nat → Int32} {M_needed : Nat → Int32} {M_label : Nat → Int32} {M_tape : Nat → Int32} {M_of : Nat → Int64} {M_kept : Nat → Int64} {M_had : Nat → Int32} {M_told : Nat → Int64} {M_first : Nat → Int64}  {k : Int32 → (Nat → Int64) → (Nat → Int64) → (Nat → Int32) → (Nat → Int32) → (Nat → Int32) → (Nat → Int32) → Prop}  (C0 : CX p s m args meth c b_M_draw 6 none R_M "draw" D ca tp A) :
    ∀ (n : Nat) (x1 : Int32) (M_nodes : Int32) (M_second : Nat → Int64) (M_node : Nat → Int64) (M_nodeVariable : Nat → Int32) (M_nodeLow : Nat → Int32) (M_nodeHigh : Nat → Int32) (M_wait : Nat → Int32) {H : Heap} {locs : List Loc} {ls : Array Slot}, p_M_draw_L56 k n x1 M_nodes M_second M_node M_nodeVariable M_nodeLow M_nodeHigh M_wait → WH D A s (WM am ca M_clauses M_given M_end M_taped M_size M_at M_to M_sort M_worth M_faultKind M_faultPlace M_isTold M_nodes M_plain M_minus M_block M_left M_right M_pivot M_live M_needed M_label M_tape M_of M_kept M_had M_told M_first M_second M_node M_nodeVariable M_nodeLow M_nodeHigh M_wait) H locs → lv_has ls 6 [(0, .ref (am 0)), (1, .int x1)] →
      W p l e rm_M_draw s m args below meth c H locs 0 0 (QV D A below args s (fun (u : Int32 × (Nat → Int64) × (Nat → Int64) × (Nat → Int32) × (Nat → Int32) × (Nat → Int32) × (Nat → Int32)) => k u.1 u.2.1 u.2.2.1 u.2.2.2.1 u.2.2.2.2.1 u.2.2.2.2.2.1 u.2.2.2.2.2.2) (fun (u : Int32 × (Nat → Int64) × (Nat → Int64) × (Nat → Int32) × (Nat → Int32) × (Nat → Int32) × (Nat → Int32)) => WM am ca M_clauses M_given M_end M_taped M_size M_at M_to M_sort M_worth M_faultKind M_faultPlace M_isTold u.1 M_plain M_minus M_block M_left M_right M_pivot M_live M_needed M_label M_tape M_of M_kept M_had M_told M_first u.2.1 u.2.2.1 u.2.2.2.1 u.2.2.2.2.1 u.2.2.2.2.2.1 u.2.2.2.2.2.2) 0 0) (F0 m 56 ls []) := by
  have hx := C0.1
  have hb := C0.2.1
  intro n
  induction n with
  | zero =>
    intro x1 M_nodes M_second M_node M_nodeVariable M_nodeLow M_nodeHigh M_wait H locs ls h
    exact False.elim h
  | succ n ih =>
    intro x1 M_nodes M_second M_node M_nodeVariable M_nodeLow M_nodeHigh M_wait H locs ls h hw hl
    unfold p_M_draw_L56 at h
    refine lv_iload_n hx hb d_M_draw_56 rfl (lv_at hl 1 rfl) ?_
    refine lv_if_le (tgt := 198) hx hb d_M_draw_57 (by decide) (fun c_9 => ?_) (fun c_9 => ?_)
    · have h := h.1 c_9
      exact x_vret C0 hw (M_nodes, M_second, M_node, M_nodeVariable, M_nodeLow, M_nodeHigh, M_wait) h rfl d_M_draw_198
    · have h := h.2 c_9
      refine lv_iinc (v := (x1 + (-1))) (lv' := [(1, .int (x1 + (-1))), (0, .ref (am 0))]) hx hb d_M_draw_60 hl (k := 1) rfl rfl (by decide) rfl (fun ls hl => ?_)
      refine lv_aload_n hx hb d_M_draw_63 rfl (lv_at hl 1 rfl) ?_
      refine x_get C0 hw 0 rfl rfl i_M 33 (by decide) wm_758 rfl rfl d_M_draw_64 ?_
      refine lv_iload_n hx hb d_M_draw_67 rfl (lv_at hl 0 rfl) ?_
      obtain ⟨hi_10, h⟩ := h
      refine x_iald C0 hw 21 rfl hi_10 d_M_draw_68 ?_
      refine lv_iconst (v := 2) hx hb d_M_draw_69 (by decide) ?_
      refine lv_idiv hx hb d_M_draw_70 (by decide) ?_
      refine lv_topi (fun v2_11 e_v2_11 => ?_)
      have h := h v2_11 e_v2_11
      refine lv_istore_n (lv' := [(2, .int v2_11), (1, .int (x1 + (-1))), (0, .ref (am 0))]) hx hb d_M_draw_71 rfl hl (by decide) rfl (fun ls hl => ?_)
      refine lv_aload_n hx hb d_M_draw_72 rfl (lv_at hl 2 rfl) ?_
      refine x_get C0 hw 0 rfl rfl i_M 33 (by decide) wm_758 rfl rfl d_M_draw_73 ?_
      refine lv_iload_n hx hb d_M_draw_76 rfl (lv_at hl 1 rfl) ?_
      refine x_iald C0 hw 21 rfl hi_10 d_M_draw_77 ?_
      refine lv_iconst (v := 2) hx hb d_M_draw_78 (by decide) ?_
      refine lv_irem hx hb d_M_draw_79 (by decide) ?_
      refine lv_iconst (v := 1) hx hb d_M_draw_80 (by decide) ?_
      refine lv_icmp_ne (tgt := 88) hx hb d_M_draw_81 (by decide) (fun c_12 => ?_) (fun c_12 => ?_)
      · have h := h.1 c_12
        refine lv_iconst (v := 0) hx hb d_M_draw_88 (by decide) ?_
        refine b_M_draw_J89 C0 _ _ _ _ _ _ _ _ _ _ h hw (lv_sub hl [2, 1, 0] rfl) (fun _ _ _ _ _ _ _ _ H locs ls h hw hl => ih _ _ _ _ _ _ _ _ h hw hl)
      · have h := h.2 c_12
        refine lv_iconst (v := 1) hx hb d_M_draw_84 (by decide) ?_
        refine lv_goto (tgt := 89) hx hb d_M_draw_85 (by decide) ?_
        refine b_M_draw_J89 C0 _ _ _ _ _ _ _ _ _ _ h hw (lv_sub hl [2, 1, 0] rfl) (fun _ _ _ _ _ _ _ _ H locs ls h hw hl => ih _ _ _ _ _ _ _ _ h hw hl)
set_option maxHeartbeats 4000000 in
set_option maxRecDepth 100000 in
theorem c_M_draw {l : Launch} {D : va_G} {ca : Nat → ClassId} {tp : Nat} {am : Nat → Nat} {M_clauses : Int32} {M_given : Int32} {M_end : Int32} {M_taped : Int32} {M_size : Int32} {M_at : Int32} {M_to : Int32} {M_sort : Int32} {M_worth : Int32} {M_faultKind : Int32} {M_faultPlace : Int32} {M_isTold : Int32} {M_nodes : Int32} {M_plain : Nat → Int32} {M_minus : Nat → Int32} {M_block : Nat → Int32} {M_left : Nat → Int32} {M_right : Nat → Int32} {M_pivot : Nat → Int32} {M_live : Nat → Int32} {M_needed : Nat → Int32} {M_label : Nat → Int32} {M_tape : Nat → Int32} {M_of : Nat → Int64} {M_kept : Nat → Int64} {M_had : Nat → Int32} {M_told : Nat → Int64} {M_first : Nat → Int64} {M_second : Nat → Int64} {M_node : Nat → Int64} {M_nodeVariable : Nat → Int32} {M_nodeLow : Nat → Int32} {M_nodeHigh : Nat → Int32} {M_wait : Nat → Int32}  {k : Int32 → (Nat → Int64) → (Nat → Int64) → (Nat → Int32) → (Nat → Int32) → (Nat → Int32) → (Nat → Int32) → Prop} (h : p_M_draw M_told M_second M_node M_nodeVariable M_nodeLow M_nodeHigh M_wait k) :
    MTv l y_M_draw b_M_draw 6 none rm_M_draw D ca tp [.ref (am 0)] (WM am ca M_clauses M_given M_end M_taped M_size M_at M_to M_sort M_worth M_faultKind M_faultPlace M_isTold M_nodes M_plain M_minus M_block M_left M_right M_pivot M_live M_needed M_label M_tape M_of M_kept M_had M_told M_first M_second M_node M_nodeVariable M_nodeLow M_nodeHigh M_wait)
      (fun (u : Int32 × (Nat → Int64) × (Nat → Int64) × (Nat → Int32) × (Nat → Int32) × (Nat → Int32) × (Nat → Int32)) => k u.1 u.2.1 u.2.2.1 u.2.2.2.1 u.2.2.2.2.1 u.2.2.2.2.2.1 u.2.2.2.2.2.2)
      (fun (u : Int32 × (Nat → Int64) × (Nat → Int64) × (Nat → Int32) × (Nat → Int32) × (Nat → Int32) × (Nat → Int32)) => WM am ca M_clauses M_given M_end M_taped M_size M_at M_to M_sort M_worth M_faultKind M_faultPlace M_isTold u.1 M_plain M_minus M_block M_left M_right M_pivot M_live M_needed M_label M_tape M_of M_kept M_had M_told M_first u.2.1 u.2.2.1 u.2.2.2.1 u.2.2.2.2.1 u.2.2.2.2.2.1 u.2.2.2.2.2.2) 0 0 := by
  refine x_entryv (own := R_M) (nm := "draw") (by decide) rfl rfl (Nat.le_of_ble_eq_true rfl) (fun p e s m below meth c A ls C0 hw hl => ?_)
  have hx := C0.1
  have hb := C0.2.1
  have hl : lv_has ls 6 [(0, .ref (am 0))] := hl
  unfold p_M_draw at h
  refine lv_aload_n hx hb d_M_draw_0 rfl (lv_at hl 0 rfl) ?_
  refine lv_iconst (v := 0) hx hb d_M_draw_1 (by decide) ?_
  refine x_put C0 hw 0 rfl rfl i_M tk_M n_M 32 (by decide) wm_757 rfl rfl rfl rfl (Nat.le_of_ble_eq_true rfl) (ws' := WM am ca M_clauses M_given M_end M_taped M_size M_at M_to M_sort M_worth M_faultKind M_faultPlace M_isTold (0 : Int32) M_plain M_minus M_block M_left M_right M_pivot M_live M_needed M_label M_tape M_of M_kept M_had M_told M_first M_second M_node M_nodeVariable M_nodeLow M_nodeHigh M_wait) rfl d_M_draw_2 (fun H locs hw => ?_)
  refine lv_iconst (v := 0) hx hb d_M_draw_5 (by decide) ?_
  refine lv_istore_n (lv' := [(1, .int (0 : Int32)), (0, .ref (am 0))]) hx hb d_M_draw_6 rfl hl (by decide) rfl (fun ls hl => ?_)
  obtain ⟨j_30, h⟩ := h
  refine b_M_draw_L7 C0 _ _ _ h hw (lv_sub hl [1, 0] rfl) (fun M_second_3 H locs ls h hw hl => ?_)
  refine lv_iconst (v := 0) hx hb d_M_draw_31 (by decide) ?_
  refine lv_istore_n (lv' := [(1, .int (0 : Int32)), (0, .ref (am 0))]) hx hb d_M_draw_32 rfl hl (by decide) rfl (fun ls hl => ?_)
  refine lv_aload_n hx hb d_M_draw_33 rfl (lv_at hl 1 rfl) ?_
  refine x_callVi C0 hw hl (c_M_nodeOf h) g_M_nodeOf wm_948 ⟨wm_48, wm_950⟩ 0 rfl rfl rfl (As := []) (rest := []) rfl rfl (Nat.le_of_ble_eq_true rfl) ⟨rfl, rfl⟩ ⟨Nat.le_of_ble_eq_true rfl, Nat.le_of_ble_eq_true rfl⟩ ⟨Nat.le_of_ble_eq_true rfl, Nat.le_of_ble_eq_true rfl⟩ d_M_draw_34 (fun r_7 u H locs h hw => ?_)
  obtain ⟨M_nodes_4, M_node_5, M_nodeVariable_6⟩ := u
  refine lv_if_ne (tgt := 56) hx hb d_M_draw_37 (by decide) (fun c_8 => ?_) (fun c_8 => ?_)
  · have h := h.1 c_8
    obtain ⟨j_28, h⟩ := h
    refine b_M_draw_L56 C0 _ _ _ _ _ _ _ _ _ h hw (lv_sub hl [1, 0] rfl)
  · have h := h.2 c_8
    refine lv_aload_n hx hb d_M_draw_40 rfl (lv_at hl 1 rfl) ?_
    refine x_get C0 hw 0 rfl rfl i_M 33 (by decide) wm_758 rfl rfl d_M_draw_41 ?_
    refine lv_iconst (v := 0) hx hb d_M_draw_44 (by decide) ?_
    refine lv_iconst (v := 1) hx hb d_M_draw_45 (by decide) ?_
    refine x_iast C0 hw 21 rfl (show vp_in (0 : Int32) 640 by unfold vp_in; decide) (ws' := WM am ca M_clauses M_given M_end M_taped M_size M_at M_to M_sort M_worth M_faultKind M_faultPlace M_isTold M_nodes_4 M_plain M_minus M_block M_left M_right M_pivot M_live M_needed M_label M_tape M_of M_kept M_had M_told M_first M_second_3 M_node_5 M_nodeVariable_6 M_nodeLow M_nodeHigh (upd M_wait (0 : Int32).toNatClampNeg (1 : Int32))) rfl d_M_draw_46 (fun H locs hw => ?_)
    refine lv_aload_n hx hb d_M_draw_47 rfl (lv_at hl 1 rfl) ?_
    refine x_get C0 hw 0 rfl rfl i_M 33 (by decide) wm_758 rfl rfl d_M_draw_48 ?_
    refine lv_iconst (v := 1) hx hb d_M_draw_51 (by decide) ?_
    refine lv_iconst (v := 0) hx hb d_M_draw_52 (by decide) ?_
    refine x_iast C0 hw 21 rfl (show vp_in (1 : Int32) 640 by unfold vp_in; decide) (ws' := WM am ca M_clauses M_given M_end M_taped M_size M_at M_to M_sort M_worth M_faultKind M_faultPlace M_isTold M_nodes_4 M_plain M_minus M_block M_left M_right M_pivot M_live M_needed M_label M_tape M_of M_kept M_had M_told M_first M_second_3 M_node_5 M_nodeVariable_6 M_nodeLow M_nodeHigh (upd (upd M_wait (0 : Int32).toNatClampNeg (1 : Int32)) (1 : Int32).toNatClampNeg (0 : Int32))) rfl d_M_draw_53 (fun H locs hw => ?_)
    refine lv_iconst (v := 2) hx hb d_M_draw_54 (by decide) ?_
    refine lv_istore_n (lv' := [(1, .int (2 : Int32)), (0, .ref (am 0))]) hx hb d_M_draw_55 rfl hl (by decide) rfl (fun ls hl => ?_)
    obtain ⟨j_29, h⟩ := h
    refine b_M_draw_L56 C0 _ _ _ _ _ _ _ _ _ h hw (lv_sub hl [1, 0] rfl)
theorem g_M_interpolate : GY y_M_interpolate b_M_interpolate 5 (some .int) 2 := ⟨wm_921, wm_62, by decide +kernel, by decide +kernel, by decide +kernel⟩
def p_M_interpolate_L78 (M_of : Nat → Int64) (x3 : Int32) (k115 : (Nat → Int64) → Prop) : Nat → Int32 → (Nat → Int64) → Prop
  | 0, _, _ => False
  | n + 1, x4, M_kept =>
    (((16 : Int32) ≤ x4 → (k115 M_kept)) ∧ (¬ (16 : Int32) ≤ x4 → (vp_in (((16 : Int32) * x3) + x4) 3232 ∧ (p_M_interpolate_L78 M_of x3 k115 n (x4 + 1) (vp_updL M_kept (((16 : Int32) * x3) + x4).toNatClampNeg (M_of (((16 : Int32) * x3) + x4).toNatClampNeg))))))
def p_M_interpolate_J74 (k40 : Int32 → (Nat → Int64) → (Nat → Int32) → Prop) (x3 : Int32) (t0 : Int32) (t1 : Int32) (M_isTold : Int32) (M_nodes : Int32) (M_of : Nat → Int64) (M_kept : Nat → Int64) (M_had : Nat → Int32) (M_told : Nat → Int64) (M_second : Nat → Int64) (M_node : Nat → Int64) (M_nodeVariable : Nat → Int32) (M_nodeLow : Nat → Int32) (M_nodeHigh : Nat → Int32) (M_wait : Nat → Int32) : Prop :=
  (vp_in t1 202 ∧ (∃ j_14, p_M_interpolate_L78 M_of x3 (fun (M_kept_13 : Nat → Int64) => (k40 (x3 + 1) M_kept_13 (upd M_had t1.toNatClampNeg (vp_nar .boolean t0)))) j_14 (0 : Int32) M_kept))
def p_M_interpolate_J73 (k40 : Int32 → (Nat → Int64) → (Nat → Int32) → Prop) (x3 : Int32) (t0 : Int32) (M_isTold : Int32) (M_nodes : Int32) (M_of : Nat → Int64) (M_kept : Nat → Int64) (M_had : Nat → Int32) (M_told : Nat → Int64) (M_second : Nat → Int64) (M_node : Nat → Int64) (M_nodeVariable : Nat → Int32) (M_nodeLow : Nat → Int32) (M_nodeHigh : Nat → Int32) (M_wait : Nat → Int32) : Prop :=
  (p_M_interpolate_J74 k40 x3 (0 : Int32) t0 M_isTold M_nodes M_of M_kept M_had M_told M_second M_node M_nodeVariable M_nodeLow M_nodeHigh M_wait)
def p_M_interpolate_L40 (M_clauses : Int32) (M_isTold : Int32) (M_nodes : Int32) (M_needed : Nat → Int32) (M_of : Nat → Int64) (M_told : Nat → Int64) (M_second : Nat → Int64) (M_node : Nat → Int64) (M_nodeVariable : Nat → Int32) (M_nodeLow : Nat → Int32) (M_nodeHigh : Nat → Int32) (M_wait : Nat → Int32) (k121 : (Nat → Int64) → (Nat → Int32) → Prop) : Nat → Int32 → (Nat → Int64) → (Nat → Int32) → Prop
  | 0, _, _, _ => False
  | n + 1, x3, M_kept, M_had =>
    (((202 : Int32) ≤ x3 → (k121 M_kept M_had)) ∧ (¬ (202 : Int32) ≤ x3 → ((M_clauses < x3 → (p_M_interpolate_J73 (p_M_interpolate_L40 M_clauses M_isTold M_nodes M_needed M_of M_told M_second M_node M_nodeVariable M_nodeLow M_nodeHigh M_wait k121 n) x3 x3 M_isTold M_nodes M_of M_kept M_had M_told M_second M_node M_nodeVariable M_nodeLow M_nodeHigh M_wait)) ∧ (¬ M_clauses < x3 → (vp_in x3 202 ∧ (((M_needed x3.toNatClampNeg) = 0 → (p_M_interpolate_J73 (p_M_interpolate_L40 M_clauses M_isTold M_nodes M_needed M_of M_told M_second M_node M_nodeVariable M_nodeLow M_nodeHigh M_wait k121 n) x3 x3 M_isTold M_nodes M_of M_kept M_had M_told M_second M_node M_nodeVariable M_nodeLow M_nodeHigh M_wait)) ∧ (¬ (M_needed x3.toNatClampNeg) = 0 → (p_M_interpolate_J74 (p_M_interpolate_L40 M_clauses M_isTold M_nodes M_needed M_of M_told M_second M_node M_nodeVariable M_nodeLow M_nodeHigh M_wait k121 n) x3 (1 : Int32) x3 M_isTold M_nodes M_of M_kept M_had M_told M_second M_node M_nodeVariable M_nodeLow M_nodeHigh M_wait))))))))
def p_M_interpolate_L123 (M_end : Int32) (M_of : Nat → Int64) (k155 : (Nat → Int64) → Prop) : Nat → Int32 → (Nat → Int64) → Prop
  | 0, _, _ => False
  | n + 1, x3, M_told =>
    (((16 : Int32) ≤ x3 → (k155 M_told)) ∧ (¬ (16 : Int32) ≤ x3 → (vp_in (((16 : Int32) * M_end) + x3) 3232 ∧ (vp_in x3 16 ∧ (∀ v_M_told_22 : Int64, v_M_told_22 = (M_of (((16 : Int32) * M_end) + x3).toNatClampNeg) → (p_M_interpolate_L123 M_end M_of k155 n (x3 + 1) (vp_updL M_told x3.toNatClampNeg v_M_told_22)))))))
def p_M_interpolate (M_clauses : Int32) (M_end : Int32) (M_isTold : Int32) (M_nodes : Int32) (M_plain : Nat → Int32) (M_minus : Nat → Int32) (M_block : Nat → Int32) (M_left : Nat → Int32) (M_right : Nat → Int32) (M_pivot : Nat → Int32) (M_needed : Nat → Int32) (M_label : Nat → Int32) (M_of : Nat → Int64) (M_kept : Nat → Int64) (M_had : Nat → Int32) (M_told : Nat → Int64) (M_second : Nat → Int64) (M_node : Nat → Int64) (M_nodeVariable : Nat → Int32) (M_nodeLow : Nat → Int32) (M_nodeHigh : Nat → Int32) (M_wait : Nat → Int32) (x1 : Int32) (x2 : Int32) (k : Int32 → Int32 → Int32 → (Nat → Int64) → (Nat → Int64) → (Nat → Int32) → (Nat → Int64) → (Nat → Int64) → (Nat → Int64) → (Nat → Int32) → (Nat → Int32) → (Nat → Int32) → (Nat → Int32) → Prop) : Prop :=
  (p_M_in x1 (1 : Int32) (7 : Int32) (fun (r_1 : Int32) => ((r_1 = 0 → (k (-2 : Int32) M_isTold M_nodes M_of M_kept M_had M_told M_second M_node M_nodeVariable M_nodeLow M_nodeHigh M_wait)) ∧ (¬ r_1 = 0 → (p_M_in x2 (0 : Int32) (3 : Int32) (fun (r_3 : Int32) => ((¬ r_3 = 0 → ((¬ M_end = (-1 : Int32) → (p_M_partials M_clauses M_plain M_minus M_block M_left M_right M_pivot M_needed M_label M_of x1 x2 (fun (M_of_6 : Nat → Int64) => (∃ j_33, p_M_interpolate_L40 M_clauses M_isTold M_nodes M_needed M_of_6 M_told M_second M_node M_nodeVariable M_nodeLow M_nodeHigh M_wait (fun (M_kept_17 : Nat → Int64) (M_had_18 : Nat → Int32) => (∃ j_32, p_M_interpolate_L123 M_end M_of_6 (fun (M_told_23 : Nat → Int64) => (p_M_draw M_told_23 M_second M_node M_nodeVariable M_nodeLow M_nodeHigh M_wait (fun (M_nodes_24 : Int32) (M_second_25 : Nat → Int64) (M_node_26 : Nat → Int64) (M_nodeVariable_27 : Nat → Int32) (M_nodeLow_28 : Nat → Int32) (M_nodeHigh_29 : Nat → Int32) (M_wait_30 : Nat → Int32) => (k M_nodes_24 (1 : Int32) M_nodes_24 M_of_6 M_kept_17 M_had_18 M_told_23 M_second_25 M_node_26 M_nodeVariable_27 M_nodeLow_28 M_nodeHigh_29 M_wait_30)))) j_32 (0 : Int32) M_told)) j_33 (0 : Int32) M_kept M_had)))) ∧ (M_end = (-1 : Int32) → (k (-1 : Int32) M_isTold M_nodes M_of M_kept M_had M_told M_second M_node M_nodeVariable M_nodeLow M_nodeHigh M_wait)))) ∧ (r_3 = 0 → (k (-2 : Int32) M_isTold M_nodes M_of M_kept M_had M_told M_second M_node M_nodeVariable M_nodeLow M_nodeHigh M_wait)))))))))
abbrev rm_M_interpolate : Room := { frames := 5, cells := 0, slots := 0, locals := 125 }
set_option maxHeartbeats 4000000 in
set_option maxRecDepth 100000 in
theorem b_M_interpolate_L78 {p : Program} {l : Launch} {e : Env} {s : State} {m : MethodId} {args : Array Value} {below : List Frame} {meth : Method} {c : Code} {D : va_G} {ca : Nat → ClassId} {tp : Nat} {A : Nat → Prop} {am : Nat → Nat} {M_clauses : Int32} {M_given : Int32} {M_end : Int32} {M_taped : Int32} {M_size : Int32} {M_at : Int32} {M_to : Int32} {M_sort : Int32} {M_worth : Int32} {M_faultKind : Int32} {M_faultPlace : Int32} {M_isTold : Int32} {M_nodes : Int32} {M_plain : Nat → Int32} {M_minus : Nat → Int32} {M_block : Nat → Int32} {M_left : Nat → Int32} {M_right : Nat → Int32} {M_pivot : Nat → Int32} {M_live : Nat → Int32} {M_needed : Nat → Int32} {M_label : Nat → Int32} {M_tape : Nat → Int32} {M_of : Nat → Int64} {M_had : Nat → Int32} {M_told : Nat → Int64} {M_first : Nat → Int64} {M_second : Nat → Int64} {M_node : Nat → Int64} {M_nodeVariable : Nat → Int32} {M_nodeLow : Nat → Int32} {M_nodeHigh : Nat → Int32} {M_wait : Nat → Int32} {x3 : Int32} {k : Int32 → Int32 → Int32 → (Nat → Int64) → (Nat → Int64) → (Nat → Int32) → (Nat → Int64) → (Nat → Int64) → (Nat → Int64) → (Nat → Int32) → (Nat → Int32) → (Nat → Int32) → (Nat → Int32) → Prop} {k115 : (Nat → Int64) → Prop} (C0 : CX p s m args meth c b_M_interpolate 5 (some .int) R_M "interpolate" D ca tp A) :
    ∀ (n : Nat) (x4 : Int32) (M_kept : Nat → Int64) {H : Heap} {locs : List Loc} {ls : Array Slot}, p_M_interpolate_L78 M_of x3 k115 n x4 M_kept → WH D A s (WM am ca M_clauses M_given M_end M_taped M_size M_at M_to M_sort M_worth M_faultKind M_faultPlace M_isTold M_nodes M_plain M_minus M_block M_left M_right M_pivot M_live M_needed M_label M_tape M_of M_kept M_had M_told M_first M_second M_node M_nodeVariable M_nodeLow M_nodeHigh M_wait) H locs → lv_has ls 5 [(0, .ref (am 0)), (3, .int x3), (4, .int x4)] →
      (∀ (M_kept : Nat → Int64) (H : Heap) (locs : List Loc) (ls : Array Slot), k115 M_kept → WH D A s (WM am ca M_clauses M_given M_end M_taped M_size M_at M_to M_sort M_worth M_faultKind M_faultPlace M_isTold M_nodes M_plain M_minus M_block M_left M_right M_pivot M_live M_needed M_label M_tape M_of M_kept M_had M_told M_first M_second M_node M_nodeVariable M_nodeLow M_nodeHigh M_wait) H locs → lv_has ls 5 [(0, .ref (am 0)), (3, .int x3)] → W p l e rm_M_interpolate s m args below meth c H locs 0 0 (QI D A below args s (fun r (u : Int32 × Int32 × (Nat → Int64) × (Nat → Int64) × (Nat → Int32) × (Nat → Int64) × (Nat → Int64) × (Nat → Int64) × (Nat → Int32) × (Nat → Int32) × (Nat → Int32) × (Nat → Int32)) => k r u.1 u.2.1 u.2.2.1 u.2.2.2.1 u.2.2.2.2.1 u.2.2.2.2.2.1 u.2.2.2.2.2.2.1 u.2.2.2.2.2.2.2.1 u.2.2.2.2.2.2.2.2.1 u.2.2.2.2.2.2.2.2.2.1 u.2.2.2.2.2.2.2.2.2.2.1 u.2.2.2.2.2.2.2.2.2.2.2) (fun (u : Int32 × Int32 × (Nat → Int64) × (Nat → Int64) × (Nat → Int32) × (Nat → Int64) × (Nat → Int64) × (Nat → Int64) × (Nat → Int32) × (Nat → Int32) × (Nat → Int32) × (Nat → Int32)) => WM am ca M_clauses M_given M_end M_taped M_size M_at M_to M_sort M_worth M_faultKind M_faultPlace u.1 u.2.1 M_plain M_minus M_block M_left M_right M_pivot M_live M_needed M_label M_tape u.2.2.1 u.2.2.2.1 u.2.2.2.2.1 u.2.2.2.2.2.1 M_first u.2.2.2.2.2.2.1 u.2.2.2.2.2.2.2.1 u.2.2.2.2.2.2.2.2.1 u.2.2.2.2.2.2.2.2.2.1 u.2.2.2.2.2.2.2.2.2.2.1 u.2.2.2.2.2.2.2.2.2.2.2) 0 0) (F0 m 115 ls [])) →
      W p l e rm_M_interpolate s m args below meth c H locs 0 0 (QI D A below args s (fun r (u : Int32 × Int32 × (Nat → Int64) × (Nat → Int64) × (Nat → Int32) × (Nat → Int64) × (Nat → Int64) × (Nat → Int64) × (Nat → Int32) × (Nat → Int32) × (Nat → Int32) × (Nat → Int32)) => k r u.1 u.2.1 u.2.2.1 u.2.2.2.1 u.2.2.2.2.1 u.2.2.2.2.2.1 u.2.2.2.2.2.2.1 u.2.2.2.2.2.2.2.1 u.2.2.2.2.2.2.2.2.1 u.2.2.2.2.2.2.2.2.2.1 u.2.2.2.2.2.2.2.2.2.2.1 u.2.2.2.2.2.2.2.2.2.2.2) (fun (u : Int32 × Int32 × (Nat → Int64) × (Nat → Int64) × (Nat → Int32) × (Nat → Int64) × (Nat → Int64) × (Nat → Int64) × (Nat → Int32) × (Nat → Int32) × (Nat → Int32) × (Nat → Int32)) => WM am ca M_clauses M_given M_end M_taped M_size M_at M_to M_sort M_worth M_faultKind M_faultPlace u.1 u.2.1 M_plain M_minus M_block M_left M_right M_pivot M_live M_needed M_label M_tape u.2.2.1 u.2.2.2.1 u.2.2.2.2.1 u.2.2.2.2.2.1 M_first u.2.2.2.2.2.2.1 u.2.2.2.2.2.2.2.1 u.2.2.2.2.2.2.2.2.1 u.2.2.2.2.2.2.2.2.2.1 u.2.2.2.2.2.2.2.2.2.2.1 u.2.2.2.2.2.2.2.2.2.2.2) 0 0) (F0 m 78 ls []) := by
  have hx := C0.1
  have hb := C0.2.1
  intro n
  induction n with
  | zero =>
    intro x4 M_kept H locs ls h
    exact False.elim h
  | succ n ih =>
    intro x4 M_kept H locs ls h hw hl h115
    unfold p_M_interpolate_L78 at h
    refine lv_iload hx hb d_M_interpolate_78 (lv_at hl 2 rfl) ?_
    refine lv_bipush (v := 16) hx hb d_M_interpolate_80 (by decide) ?_
    refine lv_icmp_ge (tgt := 115) hx hb d_M_interpolate_82 (by decide) (fun c_11 => ?_) (fun c_11 => ?_)
    · have h := h.1 c_11
      exact h115 _ _ _ _ h hw (lv_sub hl [0, 1] rfl)
    · have h := h.2 c_11
      refine lv_aload_n hx hb d_M_interpolate_85 rfl (lv_at hl 0 rfl) ?_
      refine x_get C0 hw 0 rfl rfl i_M 22 (by decide) wm_747 rfl rfl d_M_interpolate_86 ?_
      refine lv_bipush (v := 16) hx hb d_M_interpolate_89 (by decide) ?_
      refine lv_iload_n hx hb d_M_interpolate_91 rfl (lv_at hl 1 rfl) ?_
      refine lv_imul hx hb d_M_interpolate_92 ?_
      refine lv_iload hx hb d_M_interpolate_93 (lv_at hl 2 rfl) ?_
      refine lv_iadd hx hb d_M_interpolate_95 ?_
      refine lv_aload_n hx hb d_M_interpolate_96 rfl (lv_at hl 0 rfl) ?_
      refine x_get C0 hw 0 rfl rfl i_M 21 (by decide) wm_746 rfl rfl d_M_interpolate_97 ?_
      refine lv_bipush (v := 16) hx hb d_M_interpolate_100 (by decide) ?_
      refine lv_iload_n hx hb d_M_interpolate_102 rfl (lv_at hl 1 rfl) ?_
      refine lv_imul hx hb d_M_interpolate_103 ?_
      refine lv_iload hx hb d_M_interpolate_104 (lv_at hl 2 rfl) ?_
      refine lv_iadd hx hb d_M_interpolate_106 ?_
      obtain ⟨hi_12, h⟩ := h
      refine x_lald C0 hw 11 rfl hi_12 d_M_interpolate_107 ?_
      refine x_last C0 hw 12 rfl hi_12 (ws' := WM am ca M_clauses M_given M_end M_taped M_size M_at M_to M_sort M_worth M_faultKind M_faultPlace M_isTold M_nodes M_plain M_minus M_block M_left M_right M_pivot M_live M_needed M_label M_tape M_of (vp_updL M_kept (((16 : Int32) * x3) + x4).toNatClampNeg (M_of (((16 : Int32) * x3) + x4).toNatClampNeg)) M_had M_told M_first M_second M_node M_nodeVariable M_nodeLow M_nodeHigh M_wait) rfl d_M_interpolate_108 (fun H locs hw => ?_)
      refine lv_iinc (v := (x4 + 1)) (lv' := [(4, .int (x4 + 1)), (0, .ref (am 0)), (3, .int x3)]) hx hb d_M_interpolate_109 hl (k := 2) rfl rfl (by decide) rfl (fun ls hl => ?_)
      refine lv_goto (tgt := 78) hx hb d_M_interpolate_112 (by decide) ?_
      exact ih _ _ h hw (lv_sub hl [1, 2, 0] rfl) h115
set_option maxHeartbeats 4000000 in
set_option maxRecDepth 100000 in
theorem b_M_interpolate_J74 {p : Program} {l : Launch} {e : Env} {s : State} {m : MethodId} {args : Array Value} {below : List Frame} {meth : Method} {c : Code} {D : va_G} {ca : Nat → ClassId} {tp : Nat} {A : Nat → Prop} {am : Nat → Nat} {M_clauses : Int32} {M_given : Int32} {M_end : Int32} {M_taped : Int32} {M_size : Int32} {M_at : Int32} {M_to : Int32} {M_sort : Int32} {M_worth : Int32} {M_faultKind : Int32} {M_faultPlace : Int32} {M_plain : Nat → Int32} {M_minus : Nat → Int32} {M_block : Nat → Int32} {M_left : Nat → Int32} {M_right : Nat → Int32} {M_pivot : Nat → Int32} {M_live : Nat → Int32} {M_needed : Nat → Int32} {M_label : Nat → Int32} {M_tape : Nat → Int32} {M_first : Nat → Int64}  {k : Int32 → Int32 → Int32 → (Nat → Int64) → (Nat → Int64) → (Nat → Int32) → (Nat → Int64) → (Nat → Int64) → (Nat → Int64) → (Nat → Int32) → (Nat → Int32) → (Nat → Int32) → (Nat → Int32) → Prop} {k40 : Int32 → (Nat → Int64) → (Nat → Int32) → Prop} (C0 : CX p s m args meth c b_M_interpolate 5 (some .int) R_M "interpolate" D ca tp A) :
    ∀ (x3 : Int32) (t0 : Int32) (t1 : Int32) (M_isTold : Int32) (M_nodes : Int32) (M_of : Nat → Int64) (M_kept : Nat → Int64) (M_had : Nat → Int32) (M_told : Nat → Int64) (M_second : Nat → Int64) (M_node : Nat → Int64) (M_nodeVariable : Nat → Int32) (M_nodeLow : Nat → Int32) (M_nodeHigh : Nat → Int32) (M_wait : Nat → Int32) {H : Heap} {locs : List Loc} {ls : Array Slot}, p_M_interpolate_J74 k40 x3 t0 t1 M_isTold M_nodes M_of M_kept M_had M_told M_second M_node M_nodeVariable M_nodeLow M_nodeHigh M_wait → WH D A s (WM am ca M_clauses M_given M_end M_taped M_size M_at M_to M_sort M_worth M_faultKind M_faultPlace M_isTold M_nodes M_plain M_minus M_block M_left M_right M_pivot M_live M_needed M_label M_tape M_of M_kept M_had M_told M_first M_second M_node M_nodeVariable M_nodeLow M_nodeHigh M_wait) H locs → lv_has ls 5 [(0, .ref (am 0)), (3, .int x3)] →
      (∀ (x3 : Int32) (M_kept : Nat → Int64) (M_had : Nat → Int32) (H : Heap) (locs : List Loc) (ls : Array Slot), k40 x3 M_kept M_had → WH D A s (WM am ca M_clauses M_given M_end M_taped M_size M_at M_to M_sort M_worth M_faultKind M_faultPlace M_isTold M_nodes M_plain M_minus M_block M_left M_right M_pivot M_live M_needed M_label M_tape M_of M_kept M_had M_told M_first M_second M_node M_nodeVariable M_nodeLow M_nodeHigh M_wait) H locs → lv_has ls 5 [(0, .ref (am 0)), (3, .int x3)] → W p l e rm_M_interpolate s m args below meth c H locs 0 0 (QI D A below args s (fun r (u : Int32 × Int32 × (Nat → Int64) × (Nat → Int64) × (Nat → Int32) × (Nat → Int64) × (Nat → Int64) × (Nat → Int64) × (Nat → Int32) × (Nat → Int32) × (Nat → Int32) × (Nat → Int32)) => k r u.1 u.2.1 u.2.2.1 u.2.2.2.1 u.2.2.2.2.1 u.2.2.2.2.2.1 u.2.2.2.2.2.2.1 u.2.2.2.2.2.2.2.1 u.2.2.2.2.2.2.2.2.1 u.2.2.2.2.2.2.2.2.2.1 u.2.2.2.2.2.2.2.2.2.2.1 u.2.2.2.2.2.2.2.2.2.2.2) (fun (u : Int32 × Int32 × (Nat → Int64) × (Nat → Int64) × (Nat → Int32) × (Nat → Int64) × (Nat → Int64) × (Nat → Int64) × (Nat → Int32) × (Nat → Int32) × (Nat → Int32) × (Nat → Int32)) => WM am ca M_clauses M_given M_end M_taped M_size M_at M_to M_sort M_worth M_faultKind M_faultPlace u.1 u.2.1 M_plain M_minus M_block M_left M_right M_pivot M_live M_needed M_label M_tape u.2.2.1 u.2.2.2.1 u.2.2.2.2.1 u.2.2.2.2.2.1 M_first u.2.2.2.2.2.2.1 u.2.2.2.2.2.2.2.1 u.2.2.2.2.2.2.2.2.1 u.2.2.2.2.2.2.2.2.2.1 u.2.2.2.2.2.2.2.2.2.2.1 u.2.2.2.2.2.2.2.2.2.2.2) 0 0) (F0 m 40 ls [])) →
      W p l e rm_M_interpolate s m args below meth c H locs 0 0 (QI D A below args s (fun r (u : Int32 × Int32 × (Nat → Int64) × (Nat → Int64) × (Nat → Int32) × (Nat → Int64) × (Nat → Int64) × (Nat → Int64) × (Nat → Int32) × (Nat → Int32) × (Nat → Int32) × (Nat → Int32)) => k r u.1 u.2.1 u.2.2.1 u.2.2.2.1 u.2.2.2.2.1 u.2.2.2.2.2.1 u.2.2.2.2.2.2.1 u.2.2.2.2.2.2.2.1 u.2.2.2.2.2.2.2.2.1 u.2.2.2.2.2.2.2.2.2.1 u.2.2.2.2.2.2.2.2.2.2.1 u.2.2.2.2.2.2.2.2.2.2.2) (fun (u : Int32 × Int32 × (Nat → Int64) × (Nat → Int64) × (Nat → Int32) × (Nat → Int64) × (Nat → Int64) × (Nat → Int64) × (Nat → Int32) × (Nat → Int32) × (Nat → Int32) × (Nat → Int32)) => WM am ca M_clauses M_given M_end M_taped M_size M_at M_to M_sort M_worth M_faultKind M_faultPlace u.1 u.2.1 M_plain M_minus M_block M_left M_right M_pivot M_live M_needed M_label M_tape u.2.2.1 u.2.2.2.1 u.2.2.2.2.1 u.2.2.2.2.2.1 M_first u.2.2.2.2.2.2.1 u.2.2.2.2.2.2.2.1 u.2.2.2.2.2.2.2.2.1 u.2.2.2.2.2.2.2.2.2.1 u.2.2.2.2.2.2.2.2.2.2.1 u.2.2.2.2.2.2.2.2.2.2.2) 0 0) (F0 m 74 ls [.int t0, .int t1, .ref (am 13)]) := by
  have hx := C0.1
  have hb := C0.2.1
  intro x3 t0 t1 M_isTold M_nodes M_of M_kept M_had M_told M_second M_node M_nodeVariable M_nodeLow M_nodeHigh M_wait H locs ls h hw hl h40
  unfold p_M_interpolate_J74 at h
  obtain ⟨hi_10, h⟩ := h
  refine x_zast C0 hw 13 rfl hi_10 (ws' := WM am ca M_clauses M_given M_end M_taped M_size M_at M_to M_sort M_worth M_faultKind M_faultPlace M_isTold M_nodes M_plain M_minus M_block M_left M_right M_pivot M_live M_needed M_label M_tape M_of M_kept (upd M_had t1.toNatClampNeg (vp_nar .boolean t0)) M_told M_first M_second M_node M_nodeVariable M_nodeLow M_nodeHigh M_wait) rfl d_M_interpolate_74 (fun H locs hw => ?_)
  refine lv_iconst (v := 0) hx hb d_M_interpolate_75 (by decide) ?_
  refine lv_istore (lv' := [(4, .int (0 : Int32)), (0, .ref (am 0)), (3, .int x3)]) hx hb d_M_interpolate_76 hl (by decide) rfl (fun ls hl => ?_)
  obtain ⟨j_14, h⟩ := h
  refine b_M_interpolate_L78 C0 _ _ _ h hw (lv_sub hl [1, 2, 0] rfl) (fun M_kept_13 H locs ls h hw hl => ?_)
  refine lv_iinc (v := (x3 + 1)) (lv' := [(3, .int (x3 + 1)), (0, .ref (am 0))]) hx hb d_M_interpolate_115 hl (k := 1) rfl rfl (by decide) rfl (fun ls hl => ?_)
  refine lv_goto (tgt := 40) hx hb d_M_interpolate_118 (by decide) ?_
  exact h40 _ _ _ _ _ _ h hw (lv_sub hl [1, 0] rfl)
set_option maxHeartbeats 4000000 in
set_option maxRecDepth 100000 in
theorem b_M_interpolate_J73 {p : Program} {l : Launch} {e : Env} {s : State} {m : MethodId} {args : Array Value} {below : List Frame} {meth : Method} {c : Code} {D : va_G} {ca : Nat → ClassId} {tp : Nat} {A : Nat → Prop} {am : Nat → Nat} {M_clauses : Int32} {M_given : Int32} {M_end : Int32} {M_taped : Int32} {M_size : Int32} {M_at : Int32} {M_to : Int32} {M_sort : Int32} {M_worth : Int32} {M_faultKind : Int32} {M_faultPlace : Int32} {M_plain : Nat → Int32} {M_minus : Nat → Int32} {M_block : Nat → Int32} {M_left : Nat → Int32} {M_right : Nat → Int32} {M_pivot : Nat → Int32} {M_live : Nat → Int32} {M_needed : Nat → Int32} {M_label : Nat → Int32} {M_tape : Nat → Int32} {M_first : Nat → Int64}  {k : Int32 → Int32 → Int32 → (Nat → Int64) → (Nat → Int64) → (Nat → Int32) → (Nat → Int64) → (Nat → Int64) → (Nat → Int64) → (Nat → Int32) → (Nat → Int32) → (Nat → Int32) → (Nat → Int32) → Prop} {k40 : Int32 → (Nat → Int64) → (Nat → Int32) → Prop} (C0 : CX p s m args meth c b_M_interpolate 5 (some .int) R_M "interpolate" D ca tp A) :
    ∀ (x3 : Int32) (t0 : Int32) (M_isTold : Int32) (M_nodes : Int32) (M_of : Nat → Int64) (M_kept : Nat → Int64) (M_had : Nat → Int32) (M_told : Nat → Int64) (M_second : Nat → Int64) (M_node : Nat → Int64) (M_nodeVariable : Nat → Int32) (M_nodeLow : Nat → Int32) (M_nodeHigh : Nat → Int32) (M_wait : Nat → Int32) {H : Heap} {locs : List Loc} {ls : Array Slot}, p_M_interpolate_J73 k40 x3 t0 M_isTold M_nodes M_of M_kept M_had M_told M_second M_node M_nodeVariable M_nodeLow M_nodeHigh M_wait → WH D A s (WM am ca M_clauses M_given M_end M_taped M_size M_at M_to M_sort M_worth M_faultKind M_faultPlace M_isTold M_nodes M_plain M_minus M_block M_left M_right M_pivot M_live M_needed M_label M_tape M_of M_kept M_had M_told M_first M_second M_node M_nodeVariable M_nodeLow M_nodeHigh M_wait) H locs → lv_has ls 5 [(0, .ref (am 0)), (3, .int x3)] →
      (∀ (x3 : Int32) (M_kept : Nat → Int64) (M_had : Nat → Int32) (H : Heap) (locs : List Loc) (ls : Array Slot), k40 x3 M_kept M_had → WH D A s (WM am ca M_clauses M_given M_end M_taped M_size M_at M_to M_sort M_worth M_faultKind M_faultPlace M_isTold M_nodes M_plain M_minus M_block M_left M_right M_pivot M_live M_needed M_label M_tape M_of M_kept M_had M_told M_first M_second M_node M_nodeVariable M_nodeLow M_nodeHigh M_wait) H locs → lv_has ls 5 [(0, .ref (am 0)), (3, .int x3)] → W p l e rm_M_interpolate s m args below meth c H locs 0 0 (QI D A below args s (fun r (u : Int32 × Int32 × (Nat → Int64) × (Nat → Int64) × (Nat → Int32) × (Nat → Int64) × (Nat → Int64) × (Nat → Int64) × (Nat → Int32) × (Nat → Int32) × (Nat → Int32) × (Nat → Int32)) => k r u.1 u.2.1 u.2.2.1 u.2.2.2.1 u.2.2.2.2.1 u.2.2.2.2.2.1 u.2.2.2.2.2.2.1 u.2.2.2.2.2.2.2.1 u.2.2.2.2.2.2.2.2.1 u.2.2.2.2.2.2.2.2.2.1 u.2.2.2.2.2.2.2.2.2.2.1 u.2.2.2.2.2.2.2.2.2.2.2) (fun (u : Int32 × Int32 × (Nat → Int64) × (Nat → Int64) × (Nat → Int32) × (Nat → Int64) × (Nat → Int64) × (Nat → Int64) × (Nat → Int32) × (Nat → Int32) × (Nat → Int32) × (Nat → Int32)) => WM am ca M_clauses M_given M_end M_taped M_size M_at M_to M_sort M_worth M_faultKind M_faultPlace u.1 u.2.1 M_plain M_minus M_block M_left M_right M_pivot M_live M_needed M_label M_tape u.2.2.1 u.2.2.2.1 u.2.2.2.2.1 u.2.2.2.2.2.1 M_first u.2.2.2.2.2.2.1 u.2.2.2.2.2.2.2.1 u.2.2.2.2.2.2.2.2.1 u.2.2.2.2.2.2.2.2.2.1 u.2.2.2.2.2.2.2.2.2.2.1 u.2.2.2.2.2.2.2.2.2.2.2) 0 0) (F0 m 40 ls [])) →
      W p l e rm_M_interpolate s m args below meth c H locs 0 0 (QI D A below args s (fun r (u : Int32 × Int32 × (Nat → Int64) × (Nat → Int64) × (Nat → Int32) × (Nat → Int64) × (Nat → Int64) × (Nat → Int64) × (Nat → Int32) × (Nat → Int32) × (Nat → Int32) × (Nat → Int32)) => k r u.1 u.2.1 u.2.2.1 u.2.2.2.1 u.2.2.2.2.1 u.2.2.2.2.2.1 u.2.2.2.2.2.2.1 u.2.2.2.2.2.2.2.1 u.2.2.2.2.2.2.2.2.1 u.2.2.2.2.2.2.2.2.2.1 u.2.2.2.2.2.2.2.2.2.2.1 u.2.2.2.2.2.2.2.2.2.2.2) (fun (u : Int32 × Int32 × (Nat → Int64) × (Nat → Int64) × (Nat → Int32) × (Nat → Int64) × (Nat → Int64) × (Nat → Int64) × (Nat → Int32) × (Nat → Int32) × (Nat → Int32) × (Nat → Int32)) => WM am ca M_clauses M_given M_end M_taped M_size M_at M_to M_sort M_worth M_faultKind M_faultPlace u.1 u.2.1 M_plain M_minus M_block M_left M_right M_pivot M_live M_needed M_label M_tape u.2.2.1 u.2.2.2.1 u.2.2.2.2.1 u.2.2.2.2.2.1 M_first u.2.2.2.2.2.2.1 u.2.2.2.2.2.2.2.1 u.2.2.2.2.2.2.2.2.1 u.2.2.2.2.2.2.2.2.2.1 u.2.2.2.2.2.2.2.2.2.2.1 u.2.2.2.2.2.2.2.2.2.2.2) 0 0) (F0 m 73 ls [.int t0, .ref (am 13)]) := by
  have hx := C0.1
  have hb := C0.2.1
  intro x3 t0 M_isTold M_nodes M_of M_kept M_had M_told M_second M_node M_nodeVariable M_nodeLow M_nodeHigh M_wait H locs ls h hw hl h40
  unfold p_M_interpolate_J73 at h
  refine lv_iconst (v := 0) hx hb d_M_interpolate_73 (by decide) ?_
  refine b_M_interpolate_J74 C0 _ _ _ _ _ _ _ _ _ _ _ _ _ _ _ h hw (lv_sub hl [0, 1] rfl) h40
set_option maxHeartbeats 4000000 in
set_option maxRecDepth 100000 in
theorem b_M_interpolate_L40 {p : Program} {l : Launch} {e : Env} {s : State} {m : MethodId} {args : Array Value} {below : List Frame} {meth : Method} {c : Code} {D : va_G} {ca : Nat → ClassId} {tp : Nat} {A : Nat → Prop} {am : Nat → Nat} {M_clauses : Int32} {M_given : Int32} {M_end : Int32} {M_taped : Int32} {M_size : Int32} {M_at : Int32} {M_to : Int32} {M_sort : Int32} {M_worth : Int32} {M_faultKind : Int32} {M_faultPlace : Int32} {M_isTold : Int32} {M_nodes : Int32} {M_plain : Nat → Int32} {M_minus : Nat → Int32} {M_block : Nat → Int32} {M_left : Nat → Int32} {M_right : Nat → Int32} {M_pivot : Nat → Int32} {M_live : Nat → Int32} {M_needed : Nat → Int32} {M_label : Nat → Int32} {M_tape : Nat → Int32} {M_of : Nat → Int64} {M_told : Nat → Int64} {M_first : Nat → Int64} {M_second : Nat → Int64} {M_node : Nat → Int64} {M_nodeVariable : Nat → Int32} {M_nodeLow : Nat → Int32} {M_nodeHigh : Nat → Int32} {M_wait : Nat → Int32}  {k : Int32 → Int32 → Int32 → (Nat → Int64) → (Nat → Int64) → (Nat → Int32) → (Nat → Int64) → (Nat → Int64) → (Nat → Int64) → (Nat → Int32) → (Nat → Int32) → (Nat → Int32) → (Nat → Int32) → Prop} {k121 : (Nat → Int64) → (Nat → Int32) → Prop} (C0 : CX p s m args meth c b_M_interpolate 5 (some .int) R_M "interpolate" D ca tp A) :
    ∀ (n : Nat) (x3 : Int32) (M_kept : Nat → Int64) (M_had : Nat → Int32) {H : Heap} {locs : List Loc} {ls : Array Slot}, p_M_interpolate_L40 M_clauses M_isTold M_nodes M_needed M_of M_told M_second M_node M_nodeVariable M_nodeLow M_nodeHigh M_wait k121 n x3 M_kept M_had → WH D A s (WM am ca M_clauses M_given M_end M_taped M_size M_at M_to M_sort M_worth M_faultKind M_faultPlace M_isTold M_nodes M_plain M_minus M_block M_left M_right M_pivot M_live M_needed M_label M_tape M_of M_kept M_had M_told M_first M_second M_node M_nodeVariable M_nodeLow M_nodeHigh M_wait) H locs → lv_has ls 5 [(0, .ref (am 0)), (3, .int x3)] →
      (∀ (M_kept : Nat → Int64) (M_had : Nat → Int32) (H : Heap) (locs : List Loc) (ls : Array Slot), k121 M_kept M_had → WH D A s (WM am ca M_clauses M_given M_end M_taped M_size M_at M_to M_sort M_worth M_faultKind M_faultPlace M_isTold M_nodes M_plain M_minus M_block M_left M_right M_pivot M_live M_needed M_label M_tape M_of M_kept M_had M_told M_first M_second M_node M_nodeVariable M_nodeLow M_nodeHigh M_wait) H locs → lv_has ls 5 [(0, .ref (am 0))] → W p l e rm_M_interpolate s m args below meth c H locs 0 0 (QI D A below args s (fun r (u : Int32 × Int32 × (Nat → Int64) × (Nat → Int64) × (Nat → Int32) × (Nat → Int64) × (Nat → Int64) × (Nat → Int64) × (Nat → Int32) × (Nat → Int32) × (Nat → Int32) × (Nat → Int32)) => k r u.1 u.2.1 u.2.2.1 u.2.2.2.1 u.2.2.2.2.1 u.2.2.2.2.2.1 u.2.2.2.2.2.2.1 u.2.2.2.2.2.2.2.1 u.2.2.2.2.2.2.2.2.1 u.2.2.2.2.2.2.2.2.2.1 u.2.2.2.2.2.2.2.2.2.2.1 u.2.2.2.2.2.2.2.2.2.2.2) (fun (u : Int32 × Int32 × (Nat → Int64) × (Nat → Int64) × (Nat → Int32) × (Nat → Int64) × (Nat → Int64) × (Nat → Int64) × (Nat → Int32) × (Nat → Int32) × (Nat → Int32) × (Nat → Int32)) => WM am ca M_clauses M_given M_end M_taped M_size M_at M_to M_sort M_worth M_faultKind M_faultPlace u.1 u.2.1 M_plain M_minus M_block M_left M_right M_pivot M_live M_needed M_label M_tape u.2.2.1 u.2.2.2.1 u.2.2.2.2.1 u.2.2.2.2.2.1 M_first u.2.2.2.2.2.2.1 u.2.2.2.2.2.2.2.1 u.2.2.2.2.2.2.2.2.1 u.2.2.2.2.2.2.2.2.2.1 u.2.2.2.2.2.2.2.2.2.2.1 u.2.2.2.2.2.2.2.2.2.2.2) 0 0) (F0 m 121 ls [])) →
      W p l e rm_M_interpolate s m args below meth c H locs 0 0 (QI D A below args s (fun r (u : Int32 × Int32 × (Nat → Int64) × (Nat → Int64) × (Nat → Int32) × (Nat → Int64) × (Nat → Int64) × (Nat → Int64) × (Nat → Int32) × (Nat → Int32) × (Nat → Int32) × (Nat → Int32)) => k r u.1 u.2.1 u.2.2.1 u.2.2.2.1 u.2.2.2.2.1 u.2.2.2.2.2.1 u.2.2.2.2.2.2.1 u.2.2.2.2.2.2.2.1 u.2.2.2.2.2.2.2.2.1 u.2.2.2.2.2.2.2.2.2.1 u.2.2.2.2.2.2.2.2.2.2.1 u.2.2.2.2.2.2.2.2.2.2.2) (fun (u : Int32 × Int32 × (Nat → Int64) × (Nat → Int64) × (Nat → Int32) × (Nat → Int64) × (Nat → Int64) × (Nat → Int64) × (Nat → Int32) × (Nat → Int32) × (Nat → Int32) × (Nat → Int32)) => WM am ca M_clauses M_given M_end M_taped M_size M_at M_to M_sort M_worth M_faultKind M_faultPlace u.1 u.2.1 M_plain M_minus M_block M_left M_right M_pivot M_live M_needed M_label M_tape u.2.2.1 u.2.2.2.1 u.2.2.2.2.1 u.2.2.2.2.2.1 M_first u.2.2.2.2.2.2.1 u.2.2.2.2.2.2.2.1 u.2.2.2.2.2.2.2.2.1 u.2.2.2.2.2.2.2.2.2.1 u.2.2.2.2.2.2.2.2.2.2.1 u.2.2.2.2.2.2.2.2.2.2.2) 0 0) (F0 m 40 ls []) := by
  have hx := C0.1
  have hb := C0.2.1
  intro n
  induction n with
  | zero =>
    intro x3 M_kept M_had H locs ls h
    exact False.elim h
  | succ n ih =>
    intro x3 M_kept M_had H locs ls h hw hl h121
    unfold p_M_interpolate_L40 at h
    refine lv_iload_n hx hb d_M_interpolate_40 rfl (lv_at hl 1 rfl) ?_
    refine lv_sipush (v := 202) hx hb d_M_interpolate_41 (by decide) ?_
    refine lv_icmp_ge (tgt := 121) hx hb d_M_interpolate_44 (by decide) (fun c_8 => ?_) (fun c_8 => ?_)
    · have h := h.1 c_8
      exact h121 _ _ _ _ _ h hw (lv_sub hl [0] rfl)
    · have h := h.2 c_8
      refine lv_aload_n hx hb d_M_interpolate_47 rfl (lv_at hl 0 rfl) ?_
      refine x_get C0 hw 0 rfl rfl i_M 23 (by decide) wm_748 rfl rfl d_M_interpolate_48 ?_
      refine lv_iload_n hx hb d_M_interpolate_51 rfl (lv_at hl 1 rfl) ?_
      refine lv_iload_n hx hb d_M_interpolate_52 rfl (lv_at hl 1 rfl) ?_
      refine lv_aload_n hx hb d_M_interpolate_53 rfl (lv_at hl 0 rfl) ?_
      refine x_get C0 hw 0 rfl rfl i_M 8 (by decide) wm_733 rfl rfl d_M_interpolate_54 ?_
      refine lv_icmp_gt (tgt := 73) hx hb d_M_interpolate_57 (by decide) (fun c_9 => ?_) (fun c_9 => ?_)
      · have h := h.1 c_9
        refine b_M_interpolate_J73 C0 _ _ _ _ _ _ _ _ _ _ _ _ _ _ h hw (lv_sub hl [0, 1] rfl) (fun _ _ _ H locs ls h hw hl => ih _ _ _ h hw hl h121)
      · have h := h.2 c_9
        refine lv_aload_n hx hb d_M_interpolate_60 rfl (lv_at hl 0 rfl) ?_
        refine x_get C0 hw 0 rfl rfl i_M 7 (by decide) wm_732 rfl rfl d_M_interpolate_61 ?_
        refine lv_iload_n hx hb d_M_interpolate_64 rfl (lv_at hl 1 rfl) ?_
        obtain ⟨hi_15, h⟩ := h
        refine x_zald C0 hw 8 rfl hi_15 d_M_interpolate_65 ?_
        refine lv_if_eq (tgt := 73) hx hb d_M_interpolate_66 (by decide) (fun c_16 => ?_) (fun c_16 => ?_)
        · have h := h.1 c_16
          refine b_M_interpolate_J73 C0 _ _ _ _ _ _ _ _ _ _ _ _ _ _ h hw (lv_sub hl [0, 1] rfl) (fun _ _ _ H locs ls h hw hl => ih _ _ _ h hw hl h121)
        · have h := h.2 c_16
          refine lv_iconst (v := 1) hx hb d_M_interpolate_69 (by decide) ?_
          refine lv_goto (tgt := 74) hx hb d_M_interpolate_70 (by decide) ?_
          refine b_M_interpolate_J74 C0 _ _ _ _ _ _ _ _ _ _ _ _ _ _ _ h hw (lv_sub hl [0, 1] rfl) (fun _ _ _ H locs ls h hw hl => ih _ _ _ h hw hl h121)
set_option maxHeartbeats 4000000 in
set_option maxRecDepth 100000 in
theorem b_M_interpolate_L123 {p : Program} {l : Launch} {e : Env} {s : State} {m : MethodId} {args : Array Value} {below : List Frame} {meth : Method} {c : Code} {D : va_G} {ca : Nat → ClassId} {tp : Nat} {A : Nat → Prop} {am : Nat → Nat} {M_clauses : Int32} {M_given : Int32} {M_end : Int32} {M_taped : Int32} {M_size : Int32} {M_at : Int32} {M_to : Int32} {M_sort : Int32} {M_worth : Int32} {M_faultKind : Int32} {M_faultPlace : Int32} {M_isTold : Int32} {M_nodes : Int32} {M_plain : Nat → Int32} {M_minus : Nat → Int32} {M_block : Nat → Int32} {M_left : Nat → Int32} {M_right : Nat → Int32} {M_pivot : Nat → Int32} {M_live : Nat → Int32} {M_needed : Nat → Int32} {M_label : Nat → Int32} {M_tape : Nat → Int32} {M_of : Nat → Int64} {M_kept : Nat → Int64} {M_had : Nat → Int32} {M_first : Nat → Int64} {M_second : Nat → Int64} {M_node : Nat → Int64} {M_nodeVariable : Nat → Int32} {M_nodeLow : Nat → Int32} {M_nodeHigh : Nat → Int32} {M_wait : Nat → Int32}  {k : Int32 → Int32 → Int32 → (Nat → Int64) → (Nat → Int64) → (Nat → Int32) → (Nat → Int64) → (Nat → Int64) → (Nat → Int64) → (Nat → Int32) → (Nat → Int32) → (Nat → Int32) → (Nat → Int32) → Prop} {k155 : (Nat → Int64) → Prop} (C0 : CX p s m args meth c b_M_interpolate 5 (some .int) R_M "interpolate" D ca tp A) :
    ∀ (n : Nat) (x3 : Int32) (M_told : Nat → Int64) {H : Heap} {locs : List Loc} {ls : Array Slot}, p_M_interpolate_L123 M_end M_of k155 n x3 M_told → WH D A s (WM am ca M_clauses M_given M_end M_taped M_size M_at M_to M_sort M_worth M_faultKind M_faultPlace M_isTold M_nodes M_plain M_minus M_block M_left M_right M_pivot M_live M_needed M_label M_tape M_of M_kept M_had M_told M_first M_second M_node M_nodeVariable M_nodeLow M_nodeHigh M_wait) H locs → lv_has ls 5 [(0, .ref (am 0)), (3, .int x3)] →
      (∀ (M_told : Nat → Int64) (H : Heap) (locs : List Loc) (ls : Array Slot), k155 M_told → WH D A s (WM am ca M_clauses M_given M_end M_taped M_size M_at M_to M_sort M_worth M_faultKind M_faultPlace M_isTold M_nodes M_plain M_minus M_block M_left M_right M_pivot M_live M_needed M_label M_tape M_of M_kept M_had M_told M_first M_second M_node M_nodeVariable M_nodeLow M_nodeHigh M_wait) H locs → lv_has ls 5 [(0, .ref (am 0))] → W p l e rm_M_interpolate s m args below meth c H locs 0 0 (QI D A below args s (fun r (u : Int32 × Int32 × (Nat → Int64) × (Nat → Int64) × (Nat → Int32) × (Nat → Int64) × (Nat → Int64) × (Nat → Int64) × (Nat → Int32) × (Nat → Int32) × (Nat → Int32) × (Nat → Int32)) => k r u.1 u.2.1 u.2.2.1 u.2.2.2.1 u.2.2.2.2.1 u.2.2.2.2.2.1 u.2.2.2.2.2.2.1 u.2.2.2.2.2.2.2.1 u.2.2.2.2.2.2.2.2.1 u.2.2.2.2.2.2.2.2.2.1 u.2.2.2.2.2.2.2.2.2.2.1 u.2.2.2.2.2.2.2.2.2.2.2) (fun (u : Int32 × Int32 × (Nat → Int64) × (Nat → Int64) × (Nat → Int32) × (Nat → Int64) × (Nat → Int64) × (Nat → Int64) × (Nat → Int32) × (Nat → Int32) × (Nat → Int32) × (Nat → Int32)) => WM am ca M_clauses M_given M_end M_taped M_size M_at M_to M_sort M_worth M_faultKind M_faultPlace u.1 u.2.1 M_plain M_minus M_block M_left M_right M_pivot M_live M_needed M_label M_tape u.2.2.1 u.2.2.2.1 u.2.2.2.2.1 u.2.2.2.2.2.1 M_first u.2.2.2.2.2.2.1 u.2.2.2.2.2.2.2.1 u.2.2.2.2.2.2.2.2.1 u.2.2.2.2.2.2.2.2.2.1 u.2.2.2.2.2.2.2.2.2.2.1 u.2.2.2.2.2.2.2.2.2.2.2) 0 0) (F0 m 155 ls [])) →
      W p l e rm_M_interpolate s m args below meth c H locs 0 0 (QI D A below args s (fun r (u : Int32 × Int32 × (Nat → Int64) × (Nat → Int64) × (Nat → Int32) × (Nat → Int64) × (Nat → Int64) × (Nat → Int64) × (Nat → Int32) × (Nat → Int32) × (Nat → Int32) × (Nat → Int32)) => k r u.1 u.2.1 u.2.2.1 u.2.2.2.1 u.2.2.2.2.1 u.2.2.2.2.2.1 u.2.2.2.2.2.2.1 u.2.2.2.2.2.2.2.1 u.2.2.2.2.2.2.2.2.1 u.2.2.2.2.2.2.2.2.2.1 u.2.2.2.2.2.2.2.2.2.2.1 u.2.2.2.2.2.2.2.2.2.2.2) (fun (u : Int32 × Int32 × (Nat → Int64) × (Nat → Int64) × (Nat → Int32) × (Nat → Int64) × (Nat → Int64) × (Nat → Int64) × (Nat → Int32) × (Nat → Int32) × (Nat → Int32) × (Nat → Int32)) => WM am ca M_clauses M_given M_end M_taped M_size M_at M_to M_sort M_worth M_faultKind M_faultPlace u.1 u.2.1 M_plain M_minus M_block M_left M_right M_pivot M_live M_needed M_label M_tape u.2.2.1 u.2.2.2.1 u.2.2.2.2.1 u.2.2.2.2.2.1 M_first u.2.2.2.2.2.2.1 u.2.2.2.2.2.2.2.1 u.2.2.2.2.2.2.2.2.1 u.2.2.2.2.2.2.2.2.2.1 u.2.2.2.2.2.2.2.2.2.2.1 u.2.2.2.2.2.2.2.2.2.2.2) 0 0) (F0 m 123 ls []) := by
  have hx := C0.1
  have hb := C0.2.1
  intro n
  induction n with
  | zero =>
    intro x3 M_told H locs ls h
    exact False.elim h
  | succ n ih =>
    intro x3 M_told H locs ls h hw hl h155
    unfold p_M_interpolate_L123 at h
    refine lv_iload_n hx hb d_M_interpolate_123 rfl (lv_at hl 1 rfl) ?_
    refine lv_bipush (v := 16) hx hb d_M_interpolate_124 (by decide) ?_
    refine lv_icmp_ge (tgt := 155) hx hb d_M_interpolate_126 (by decide) (fun c_19 => ?_) (fun c_19 => ?_)
    · have h := h.1 c_19
      exact h155 _ _ _ _ h hw (lv_sub hl [0] rfl)
    · have h := h.2 c_19
      refine lv_aload_n hx hb d_M_interpolate_129 rfl (lv_at hl 0 rfl) ?_
      refine x_get C0 hw 0 rfl rfl i_M 24 (by decide) wm_749 rfl rfl d_M_interpolate_130 ?_
      refine lv_iload_n hx hb d_M_interpolate_133 rfl (lv_at hl 1 rfl) ?_
      refine lv_aload_n hx hb d_M_interpolate_134 rfl (lv_at hl 0 rfl) ?_
      refine x_get C0 hw 0 rfl rfl i_M 21 (by decide) wm_746 rfl rfl d_M_interpolate_135 ?_
      refine lv_bipush (v := 16) hx hb d_M_interpolate_138 (by decide) ?_
      refine lv_aload_n hx hb d_M_interpolate_140 rfl (lv_at hl 0 rfl) ?_
      refine x_get C0 hw 0 rfl rfl i_M 10 (by decide) wm_735 rfl rfl d_M_interpolate_141 ?_
      refine lv_imul hx hb d_M_interpolate_144 ?_
      refine lv_iload_n hx hb d_M_interpolate_145 rfl (lv_at hl 1 rfl) ?_
      refine lv_iadd hx hb d_M_interpolate_146 ?_
      obtain ⟨hi_20, h⟩ := h
      refine x_lald C0 hw 11 rfl hi_20 d_M_interpolate_147 ?_
      obtain ⟨hi_21, h⟩ := h
      refine lv_topl (fun v_M_told_22 e_v_M_told_22 => ?_)
      have h := h v_M_told_22 e_v_M_told_22
      refine x_last C0 hw 14 rfl hi_21 (ws' := WM am ca M_clauses M_given M_end M_taped M_size M_at M_to M_sort M_worth M_faultKind M_faultPlace M_isTold M_nodes M_plain M_minus M_block M_left M_right M_pivot M_live M_needed M_label M_tape M_of M_kept M_had (vp_updL M_told x3.toNatClampNeg v_M_told_22) M_first M_second M_node M_nodeVariable M_nodeLow M_nodeHigh M_wait) rfl d_M_interpolate_148 (fun H locs hw => ?_)
      refine lv_iinc (v := (x3 + 1)) (lv' := [(3, .int (x3 + 1)), (0, .ref (am 0))]) hx hb d_M_interpolate_149 hl (k := 1) rfl rfl (by decide) rfl (fun ls hl => ?_)
      refine lv_goto (tgt := 123) hx hb d_M_interpolate_152 (by decide) ?_
      exact ih _ _ h hw (lv_sub hl [1, 0] rfl) h155
set_option maxHeartbeats 4000000 in
set_option maxRecDepth 100000 in
theorem c_M_interpolate {l : Launch} {D : va_G} {ca : Nat → ClassId} {tp : Nat} {am : Nat → Nat} {M_clauses : Int32} {M_given : Int32} {M_end : Int32} {M_taped : Int32} {M_size : Int32} {M_at : Int32} {M_to : Int32} {M_sort : Int32} {M_worth : Int32} {M_faultKind : Int32} {M_faultPlace : Int32} {M_isTold : Int32} {M_nodes : Int32} {M_plain : Nat → Int32} {M_minus : Nat → Int32} {M_block : Nat → Int32} {M_left : Nat → Int32} {M_right : Nat → Int32} {M_pivot : Nat → Int32} {M_live : Nat → Int32} {M_needed : Nat → Int32} {M_label : Nat → Int32} {M_tape : Nat → Int32} {M_of : Nat → Int64} {M_kept : Nat → Int64} {M_had : Nat → Int32} {M_told : Nat → Int64} {M_first : Nat → Int64} {M_second : Nat → Int64} {M_node : Nat → Int64} {M_nodeVariable : Nat → Int32} {M_nodeLow : Nat → Int32} {M_nodeHigh : Nat → Int32} {M_wait : Nat → Int32} {x1 : Int32} {x2 : Int32} {k : Int32 → Int32 → Int32 → (Nat → Int64) → (Nat → Int64) → (Nat → Int32) → (Nat → Int64) → (Nat → Int64) → (Nat → Int64) → (Nat → Int32) → (Nat → Int32) → (Nat → Int32) → (Nat → Int32) → Prop} (h : p_M_interpolate M_clauses M_end M_isTold M_nodes M_plain M_minus M_block M_left M_right M_pivot M_needed M_label M_of M_kept M_had M_told M_second M_node M_nodeVariable M_nodeLow M_nodeHigh M_wait x1 x2 k) :
    MTi l y_M_interpolate b_M_interpolate 5 (some .int) rm_M_interpolate D ca tp [.ref (am 0), .int x1, .int x2] (WM am ca M_clauses M_given M_end M_taped M_size M_at M_to M_sort M_worth M_faultKind M_faultPlace M_isTold M_nodes M_plain M_minus M_block M_left M_right M_pivot M_live M_needed M_label M_tape M_of M_kept M_had M_told M_first M_second M_node M_nodeVariable M_nodeLow M_nodeHigh M_wait)
      (fun r (u : Int32 × Int32 × (Nat → Int64) × (Nat → Int64) × (Nat → Int32) × (Nat → Int64) × (Nat → Int64) × (Nat → Int64) × (Nat → Int32) × (Nat → Int32) × (Nat → Int32) × (Nat → Int32)) => k r u.1 u.2.1 u.2.2.1 u.2.2.2.1 u.2.2.2.2.1 u.2.2.2.2.2.1 u.2.2.2.2.2.2.1 u.2.2.2.2.2.2.2.1 u.2.2.2.2.2.2.2.2.1 u.2.2.2.2.2.2.2.2.2.1 u.2.2.2.2.2.2.2.2.2.2.1 u.2.2.2.2.2.2.2.2.2.2.2)
      (fun (u : Int32 × Int32 × (Nat → Int64) × (Nat → Int64) × (Nat → Int32) × (Nat → Int64) × (Nat → Int64) × (Nat → Int64) × (Nat → Int32) × (Nat → Int32) × (Nat → Int32) × (Nat → Int32)) => WM am ca M_clauses M_given M_end M_taped M_size M_at M_to M_sort M_worth M_faultKind M_faultPlace u.1 u.2.1 M_plain M_minus M_block M_left M_right M_pivot M_live M_needed M_label M_tape u.2.2.1 u.2.2.2.1 u.2.2.2.2.1 u.2.2.2.2.2.1 M_first u.2.2.2.2.2.2.1 u.2.2.2.2.2.2.2.1 u.2.2.2.2.2.2.2.2.1 u.2.2.2.2.2.2.2.2.2.1 u.2.2.2.2.2.2.2.2.2.2.1 u.2.2.2.2.2.2.2.2.2.2.2) 0 0 := by
  refine x_entryi (own := R_M) (nm := "interpolate") (by decide) rfl rfl (Nat.le_of_ble_eq_true rfl) (fun p e s m below meth c A ls C0 hw hl => ?_)
  have hx := C0.1
  have hb := C0.2.1
  have hl : lv_has ls 5 [(0, .ref (am 0)), (1, .int x1), (2, .int x2)] := hl
  unfold p_M_interpolate at h
  refine lv_iload_n hx hb d_M_interpolate_0 rfl (lv_at hl 1 rfl) ?_
  refine lv_iconst (v := 1) hx hb d_M_interpolate_1 (by decide) ?_
  refine lv_bipush (v := 7) hx hb d_M_interpolate_2 (by decide) ?_
  refine x_callSi C0 hw hl (c_M_in h) g_M_in wm_891 wm_892 (As := [.int x1, .int (1 : Int32), .int (7 : Int32)]) (rest := []) rfl rfl (Nat.le_of_ble_eq_true rfl) ⟨rfl, rfl⟩ ⟨Nat.le_of_ble_eq_true rfl, Nat.le_of_ble_eq_true rfl⟩ ⟨Nat.le_of_ble_eq_true rfl, Nat.le_of_ble_eq_true rfl⟩ d_M_interpolate_4 (fun r_1 u H locs h hw => ?_)
  refine lv_if_eq (tgt := 19) hx hb d_M_interpolate_7 (by decide) (fun c_2 => ?_) (fun c_2 => ?_)
  · have h := h.1 c_2
    refine lv_bipush (v := -2) hx hb d_M_interpolate_19 (by decide) ?_
    exact x_iret C0 hw (M_isTold, M_nodes, M_of, M_kept, M_had, M_told, M_second, M_node, M_nodeVariable, M_nodeLow, M_nodeHigh, M_wait) h rfl d_M_interpolate_21
  · have h := h.2 c_2
    refine lv_iload_n hx hb d_M_interpolate_10 rfl (lv_at hl 2 rfl) ?_
    refine lv_iconst (v := 0) hx hb d_M_interpolate_11 (by decide) ?_
    refine lv_iconst (v := 3) hx hb d_M_interpolate_12 (by decide) ?_
    refine x_callSi C0 hw hl (c_M_in h) g_M_in wm_891 wm_892 (As := [.int x2, .int (0 : Int32), .int (3 : Int32)]) (rest := []) rfl rfl (Nat.le_of_ble_eq_true rfl) ⟨rfl, rfl⟩ ⟨Nat.le_of_ble_eq_true rfl, Nat.le_of_ble_eq_true rfl⟩ ⟨Nat.le_of_ble_eq_true rfl, Nat.le_of_ble_eq_true rfl⟩ d_M_interpolate_13 (fun r_3 u H locs h hw => ?_)
    refine lv_if_ne (tgt := 22) hx hb d_M_interpolate_16 (by decide) (fun c_4 => ?_) (fun c_4 => ?_)
    · have h := h.1 c_4
      refine lv_aload_n hx hb d_M_interpolate_22 rfl (lv_at hl 0 rfl) ?_
      refine x_get C0 hw 0 rfl rfl i_M 10 (by decide) wm_735 rfl rfl d_M_interpolate_23 ?_
      refine lv_iconst (v := -1) hx hb d_M_interpolate_26 (by decide) ?_
      refine lv_icmp_ne (tgt := 32) hx hb d_M_interpolate_27 (by decide) (fun c_5 => ?_) (fun c_5 => ?_)
      · have h := h.1 c_5
        refine lv_aload_n hx hb d_M_interpolate_32 rfl (lv_at hl 0 rfl) ?_
        refine lv_iload_n hx hb d_M_interpolate_33 rfl (lv_at hl 1 rfl) ?_
        refine lv_iload_n hx hb d_M_interpolate_34 rfl (lv_at hl 2 rfl) ?_
        refine x_callVv C0 hw hl (c_M_partials h) g_M_partials wm_922 ⟨wm_44, wm_924⟩ 0 rfl rfl rfl (As := [.int x1, .int x2]) (rest := []) rfl rfl (Nat.le_of_ble_eq_true rfl) ⟨rfl, rfl⟩ ⟨Nat.le_of_ble_eq_true rfl, Nat.le_of_ble_eq_true rfl⟩ ⟨Nat.le_of_ble_eq_true rfl, Nat.le_of_ble_eq_true rfl⟩ d_M_interpolate_35 (fun u H locs h hw => ?_)
        obtain ⟨M_of_6, rfl⟩ : ∃ z, z = u := ⟨_, rfl⟩
        refine lv_iconst (v := 0) hx hb d_M_interpolate_38 (by decide) ?_
        refine lv_istore_n (lv' := [(3, .int (0 : Int32)), (0, .ref (am 0)), (1, .int x1), (2, .int x2)]) hx hb d_M_interpolate_39 rfl hl (by decide) rfl (fun ls hl => ?_)
        obtain ⟨j_33, h⟩ := h
        refine b_M_interpolate_L40 C0 _ _ _ _ h hw (lv_sub hl [1, 0] rfl) (fun M_kept_17 M_had_18 H locs ls h hw hl => ?_)
        refine lv_iconst (v := 0) hx hb d_M_interpolate_121 (by decide) ?_
        refine lv_istore_n (lv' := [(3, .int (0 : Int32)), (0, .ref (am 0))]) hx hb d_M_interpolate_122 rfl hl (by decide) rfl (fun ls hl => ?_)
        obtain ⟨j_32, h⟩ := h
        refine b_M_interpolate_L123 C0 _ _ _ h hw (lv_sub hl [1, 0] rfl) (fun M_told_23 H locs ls h hw hl => ?_)
        refine lv_aload_n hx hb d_M_interpolate_155 rfl (lv_at hl 0 rfl) ?_
        refine lv_iconst (v := 1) hx hb d_M_interpolate_156 (by decide) ?_
        refine x_put C0 hw 0 rfl rfl i_M tk_M n_M 25 (by decide) wm_750 rfl rfl rfl rfl (Nat.le_of_ble_eq_true rfl) (ws' := WM am ca M_clauses M_given M_end M_taped M_size M_at M_to M_sort M_worth M_faultKind M_faultPlace (1 : Int32) M_nodes M_plain M_minus M_block M_left M_right M_pivot M_live M_needed M_label M_tape M_of_6 M_kept_17 M_had_18 M_told_23 M_first M_second M_node M_nodeVariable M_nodeLow M_nodeHigh M_wait) rfl d_M_interpolate_157 (fun H locs hw => ?_)
        refine lv_aload_n hx hb d_M_interpolate_160 rfl (lv_at hl 0 rfl) ?_
        refine x_callVv C0 hw hl (c_M_draw h) g_M_draw wm_944 ⟨wm_47, wm_946⟩ 0 rfl rfl rfl (As := []) (rest := []) rfl rfl (Nat.le_of_ble_eq_true rfl) ⟨rfl, rfl⟩ ⟨Nat.le_of_ble_eq_true rfl, Nat.le_of_ble_eq_true rfl⟩ ⟨Nat.le_of_ble_eq_true rfl, Nat.le_of_ble_eq_true rfl⟩ d_M_interpolate_161 (fun u H locs h hw => ?_)
        obtain ⟨M_nodes_24, M_second_25, M_node_26, M_nodeVariable_27, M_nodeLow_28, M_nodeHigh_29, M_wait_30⟩ := u
        refine lv_aload_n hx hb d_M_interpolate_164 rfl (lv_at hl 0 rfl) ?_
        refine x_get C0 hw 0 rfl rfl i_M 32 (by decide) wm_757 rfl rfl d_M_interpolate_165 ?_
        exact x_iret C0 hw ((1 : Int32), M_nodes_24, M_of_6, M_kept_17, M_had_18, M_told_23, M_second_25, M_node_26, M_nodeVariable_27, M_nodeLow_28, M_nodeHigh_29, M_wait_30) h rfl d_M_interpolate_168
      · have h := h.2 c_5
        refine lv_iconst (v := -1) hx hb d_M_interpolate_30 (by decide) ?_
        exact x_iret C0 hw (M_isTold, M_nodes, M_of, M_kept, M_had, M_told, M_second, M_node, M_nodeVariable, M_nodeLow, M_nodeHigh, M_wait) h rfl d_M_interpolate_31
    · have h := h.2 c_4
      refine lv_bipush (v := -2) hx hb d_M_interpolate_19 (by decide) ?_
      exact x_iret C0 hw (M_isTold, M_nodes, M_of, M_kept, M_had, M_told, M_second, M_node, M_nodeVariable, M_nodeLow, M_nodeHigh, M_wait) h rfl d_M_interpolate_21

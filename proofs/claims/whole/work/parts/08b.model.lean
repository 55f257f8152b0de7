theorem g_M_clause : GY y_M_clause b_M_clause 3 (some .int) 2 := ⟨wm_890, wm_62, by decide +kernel, by decide +kernel, by decide +kernel⟩
def p_M_clause (M_clauses : Int32) (M_plain : Nat → Int32) (M_minus : Nat → Int32) (M_block : Nat → Int32) (M_left : Nat → Int32) (M_right : Nat → Int32) (M_pivot : Nat → Int32) (M_needed : Nat → Int32) (x1 : Int32) (x2 : Int32) (k : Int32 → Prop) : Prop :=
  (p_M_in x1 (1 : Int32) M_clauses (fun (r_1 : Int32) => ((¬ r_1 = 0 → ((x2 = (0 : Int32) → (vp_in x1 202 ∧ (k (M_block x1.toNatClampNeg)))) ∧ (x2 = (1 : Int32) → (vp_in x1 202 ∧ (k (M_left x1.toNatClampNeg)))) ∧ (x2 = (2 : Int32) → (vp_in x1 202 ∧ (k (M_right x1.toNatClampNeg)))) ∧ (x2 = (3 : Int32) → (vp_in x1 202 ∧ (k (M_pivot x1.toNatClampNeg)))) ∧ (x2 = (4 : Int32) → (vp_in x1 202 ∧ (k ((M_plain x1.toNatClampNeg) ||| (M_minus x1.toNatClampNeg))))) ∧ (x2 = (5 : Int32) → (vp_in x1 202 ∧ (k (M_minus x1.toNatClampNeg)))) ∧ (x2 = (6 : Int32) → (vp_in x1 202 ∧ (((M_needed x1.toNatClampNeg) = 0 → (k (0 : Int32))) ∧ (¬ (M_needed x1.toNatClampNeg) = 0 → (k (1 : Int32)))))) ∧ (¬ x2 = (0 : Int32) → ¬ x2 = (1 : Int32) → ¬ x2 = (2 : Int32) → ¬ x2 = (3 : Int32) → ¬ x2 = (4 : Int32) → ¬ x2 = (5 : Int32) → ¬ x2 = (6 : Int32) → (k (-1 : Int32))))) ∧ (r_1 = 0 → (k (-1 : Int32))))))
abbrev rm_M_clause : Room := { frames := 1, cells := 0, slots := 0, locals := 22 }
set_option maxHeartbeats 4000000 in
set_option maxRecDepth 100000 in
theorem c_M_clause {l : Launch} {D : va_G} {ca : Nat → ClassId} {tp : Nat} {am : Nat → Nat} {M_clauses : Int32} {M_given : Int32} {M_end : Int32} {M_taped : Int32} {M_size : Int32} {M_at : Int32} {M_to : Int32} {M_sort : Int32} {M_worth : Int32} {M_faultKind : Int32} {M_faultPlace : Int32} {M_isTold : Int32} {M_nodes : Int32} {M_plain : Nat → Int32} {M_minus : Nat → Int32} {M_block : Nat → Int32} {M_left : Nat → Int32} {M_right : Nat → Int32} {M_pivot : Nat → Int32} {M_live : Nat → Int32} {M_needed : Nat → Int32} {M_label : Nat → Int32} {M_tape : Nat → Int32} {M_of : Nat → Int64} {M_kept : Nat → Int64} {M_had : Nat → Int32} {M_told : Nat → Int64} {M_first : Nat → Int64} {M_second : Nat → Int64} {M_node : Nat → Int64} {M_nodeVariable : Nat → Int32} {M_nodeLow : Nat → Int32} {M_nodeHigh : Nat → Int32} {M_wait : Nat → Int32} {x1 : Int32} {x2 : Int32} {k : Int32 → Prop} (h : p_M_clause M_clauses M_plain M_minus M_block M_left M_right M_pivot M_needed x1 x2 k) :
    MTi l y_M_clause b_M_clause 3 (some .int) rm_M_clause D ca tp [.ref (am 0), .int x1, .int x2] (WM am ca M_clauses M_given M_end M_taped M_size M_at M_to M_sort M_worth M_faultKind M_faultPlace M_isTold M_nodes M_plain M_minus M_block M_left M_right M_pivot M_live M_needed M_label M_tape M_of M_kept M_had M_told M_first M_second M_node M_nodeVariable M_nodeLow M_nodeHigh M_wait)
      (fun r (_ : Unit) => k r)
      (fun (_ : Unit) => WM am ca M_clauses M_given M_end M_taped M_size M_at M_to M_sort M_worth M_faultKind M_faultPlace M_isTold M_nodes M_plain M_minus M_block M_left M_right M_pivot M_live M_needed M_label M_tape M_of M_kept M_had M_told M_first M_second M_node M_nodeVariable M_nodeLow M_nodeHigh M_wait) 0 0 := by
  refine x_entryi (own := R_M) (nm := "clause") (by decide) rfl rfl (Nat.le_of_ble_eq_true rfl) (fun p e s m below meth c A ls C0 hw hl => ?_)
  have hx := C0.1
  have hb := C0.2.1
  have hl : lv_has ls 3 [(0, .ref (am 0)), (1, .int x1), (2, .int x2)] := hl
  unfold p_M_clause at h
  refine lv_iload_n hx hb d_M_clause_0 rfl (lv_at hl 1 rfl) ?_
  refine lv_iconst (v := 1) hx hb d_M_clause_1 (by decide) ?_
  refine lv_aload_n hx hb d_M_clause_2 rfl (lv_at hl 0 rfl) ?_
  refine x_get C0 hw 0 rfl rfl i_M 8 (by decide) wm_733 rfl rfl d_M_clause_3 ?_
  refine x_callSi C0 hw hl (c_M_in h) g_M_in wm_891 wm_892 (As := [.int x1, .int (1 : Int32), .int M_clauses]) (rest := []) rfl rfl (Nat.le_of_ble_eq_true rfl) ⟨rfl, rfl⟩ ⟨Nat.le_of_ble_eq_true rfl, Nat.le_of_ble_eq_true rfl⟩ ⟨Nat.le_of_ble_eq_true rfl, Nat.le_of_ble_eq_true rfl⟩ d_M_clause_6 (fun r_1 u H locs h hw => ?_)
  refine lv_if_ne (tgt := 14) hx hb d_M_clause_9 (by decide) (fun c_2 => ?_) (fun c_2 => ?_)
  · have h := h.1 c_2
    refine lv_iload_n hx hb d_M_clause_14 rfl (lv_at hl 2 rfl) ?_
    by_cases c_3 : x2 = (0 : Int32)
    · have h := h.1 c_3
      refine lv_tableIn (tgt := 56) (off := 41) hx hb d_M_clause_15 (by rw [c_3]; decide) (by rw [c_3]; decide) (by rw [c_3]; rfl) (by decide) ?_
      refine lv_aload_n hx hb d_M_clause_56 rfl (lv_at hl 0 rfl) ?_
      refine x_get C0 hw 0 rfl rfl i_M 2 (by decide) wm_727 rfl rfl d_M_clause_57 ?_
      refine lv_iload_n hx hb d_M_clause_60 rfl (lv_at hl 1 rfl) ?_
      obtain ⟨hi_4, h⟩ := h
      refine x_iald C0 hw 3 rfl hi_4 d_M_clause_61 ?_
      exact x_iret C0 hw () h rfl d_M_clause_62
    by_cases c_5 : x2 = (1 : Int32)
    · have h := h.2.1 c_5
      refine lv_tableIn (tgt := 63) (off := 48) hx hb d_M_clause_15 (by rw [c_5]; decide) (by rw [c_5]; decide) (by rw [c_5]; rfl) (by decide) ?_
      refine lv_aload_n hx hb d_M_clause_63 rfl (lv_at hl 0 rfl) ?_
      refine x_get C0 hw 0 rfl rfl i_M 3 (by decide) wm_728 rfl rfl d_M_clause_64 ?_
      refine lv_iload_n hx hb d_M_clause_67 rfl (lv_at hl 1 rfl) ?_
      obtain ⟨hi_6, h⟩ := h
      refine x_iald C0 hw 4 rfl hi_6 d_M_clause_68 ?_
      exact x_iret C0 hw () h rfl d_M_clause_69
    by_cases c_7 : x2 = (2 : Int32)
    · have h := h.2.2.1 c_7
      refine lv_tableIn (tgt := 70) (off := 55) hx hb d_M_clause_15 (by rw [c_7]; decide) (by rw [c_7]; decide) (by rw [c_7]; rfl) (by decide) ?_
      refine lv_aload_n hx hb d_M_clause_70 rfl (lv_at hl 0 rfl) ?_
      refine x_get C0 hw 0 rfl rfl i_M 4 (by decide) wm_729 rfl rfl d_M_clause_71 ?_
      refine lv_iload_n hx hb d_M_clause_74 rfl (lv_at hl 1 rfl) ?_
      obtain ⟨hi_8, h⟩ := h
      refine x_iald C0 hw 5 rfl hi_8 d_M_clause_75 ?_
      exact x_iret C0 hw () h rfl d_M_clause_76
    by_cases c_9 : x2 = (3 : Int32)
    · have h := h.2.2.2.1 c_9
      refine lv_tableIn (tgt := 77) (off := 62) hx hb d_M_clause_15 (by rw [c_9]; decide) (by rw [c_9]; decide) (by rw [c_9]; rfl) (by decide) ?_
      refine lv_aload_n hx hb d_M_clause_77 rfl (lv_at hl 0 rfl) ?_
      refine x_get C0 hw 0 rfl rfl i_M 5 (by decide) wm_730 rfl rfl d_M_clause_78 ?_
      refine lv_iload_n hx hb d_M_clause_81 rfl (lv_at hl 1 rfl) ?_
      obtain ⟨hi_10, h⟩ := h
      refine x_iald C0 hw 6 rfl hi_10 d_M_clause_82 ?_
      exact x_iret C0 hw () h rfl d_M_clause_83
    by_cases c_11 : x2 = (4 : Int32)
    · have h := h.2.2.2.2.1 c_11
      refine lv_tableIn (tgt := 84) (off := 69) hx hb d_M_clause_15 (by rw [c_11]; decide) (by rw [c_11]; decide) (by rw [c_11]; rfl) (by decide) ?_
      refine lv_aload_n hx hb d_M_clause_84 rfl (lv_at hl 0 rfl) ?_
      refine x_get C0 hw 0 rfl rfl i_M 0 (by decide) wm_725 rfl rfl d_M_clause_85 ?_
      refine lv_iload_n hx hb d_M_clause_88 rfl (lv_at hl 1 rfl) ?_
      obtain ⟨hi_12, h⟩ := h
      refine x_iald C0 hw 1 rfl hi_12 d_M_clause_89 ?_
      refine lv_aload_n hx hb d_M_clause_90 rfl (lv_at hl 0 rfl) ?_
      refine x_get C0 hw 0 rfl rfl i_M 1 (by decide) wm_726 rfl rfl d_M_clause_91 ?_
      refine lv_iload_n hx hb d_M_clause_94 rfl (lv_at hl 1 rfl) ?_
      refine x_iald C0 hw 2 rfl hi_12 d_M_clause_95 ?_
      refine lv_ior hx hb d_M_clause_96 ?_
      exact x_iret C0 hw () h rfl d_M_clause_97
    by_cases c_13 : x2 = (5 : Int32)
    · have h := h.2.2.2.2.2.1 c_13
      refine lv_tableIn (tgt := 98) (off := 83) hx hb d_M_clause_15 (by rw [c_13]; decide) (by rw [c_13]; decide) (by rw [c_13]; rfl) (by decide) ?_
      refine lv_aload_n hx hb d_M_clause_98 rfl (lv_at hl 0 rfl) ?_
      refine x_get C0 hw 0 rfl rfl i_M 1 (by decide) wm_726 rfl rfl d_M_clause_99 ?_
      refine lv_iload_n hx hb d_M_clause_102 rfl (lv_at hl 1 rfl) ?_
      obtain ⟨hi_14, h⟩ := h
      refine x_iald C0 hw 2 rfl hi_14 d_M_clause_103 ?_
      exact x_iret C0 hw () h rfl d_M_clause_104
    by_cases c_15 : x2 = (6 : Int32)
    · have h := h.2.2.2.2.2.2.1 c_15
      refine lv_tableIn (tgt := 105) (off := 90) hx hb d_M_clause_15 (by rw [c_15]; decide) (by rw [c_15]; decide) (by rw [c_15]; rfl) (by decide) ?_
      refine lv_aload_n hx hb d_M_clause_105 rfl (lv_at hl 0 rfl) ?_
      refine x_get C0 hw 0 rfl rfl i_M 7 (by decide) wm_732 rfl rfl d_M_clause_106 ?_
      refine lv_iload_n hx hb d_M_clause_109 rfl (lv_at hl 1 rfl) ?_
      obtain ⟨hi_16, h⟩ := h
      refine x_zald C0 hw 8 rfl hi_16 d_M_clause_110 ?_
      refine lv_if_eq (tgt := 118) hx hb d_M_clause_111 (by decide) (fun c_17 => ?_) (fun c_17 => ?_)
      · have h := h.1 c_17
        refine lv_iconst (v := 0) hx hb d_M_clause_118 (by decide) ?_
        exact x_iret C0 hw () h rfl d_M_clause_119
      · have h := h.2 c_17
        refine lv_iconst (v := 1) hx hb d_M_clause_114 (by decide) ?_
        refine lv_goto (tgt := 119) hx hb d_M_clause_115 (by decide) ?_
        exact x_iret C0 hw () h rfl d_M_clause_119
    have h := h.2.2.2.2.2.2.2 c_3 c_5 c_7 c_9 c_11 c_13 c_15
    refine lv_tableOut (tgt := 120) hx hb d_M_clause_15 (by have q0 := lv_neT c_3 (a := 0) rfl; have q1 := lv_neT c_5 (a := 1) rfl; have q2 := lv_neT c_7 (a := 2) rfl; have q3 := lv_neT c_9 (a := 3) rfl; have q4 := lv_neT c_11 (a := 4) rfl; have q5 := lv_neT c_13 (a := 5) rfl; have q6 := lv_neT c_15 (a := 6) rfl; omega) (by decide) ?_
    refine lv_iconst (v := -1) hx hb d_M_clause_120 (by decide) ?_
    exact x_iret C0 hw () h rfl d_M_clause_121
  · have h := h.2 c_2
    refine lv_iconst (v := -1) hx hb d_M_clause_12 (by decide) ?_
    exact x_iret C0 hw () h rfl d_M_clause_13
theorem g_M_refutation : GY y_M_refutation b_M_refutation 1 (some .int) 0 := ⟨wm_897, wm_62, by decide +kernel, by decide +kernel, by decide +kernel⟩
def p_M_refutation (M_end : Int32) (k : Int32 → Prop) : Prop :=
  (k M_end)
abbrev rm_M_refutation : Room := { frames := 0, cells := 0, slots := 0, locals := 0 }
set_option maxHeartbeats 4000000 in
set_option maxRecDepth 100000 in
theorem c_M_refutation {l : Launch} {D : va_G} {ca : Nat → ClassId} {tp : Nat} {am : Nat → Nat} {M_clauses : Int32} {M_given : Int32} {M_end : Int32} {M_taped : Int32} {M_size : Int32} {M_at : Int32} {M_to : Int32} {M_sort : Int32} {M_worth : Int32} {M_faultKind : Int32} {M_faultPlace : Int32} {M_isTold : Int32} {M_nodes : Int32} {M_plain : Nat → Int32} {M_minus : Nat → Int32} {M_block : Nat → Int32} {M_left : Nat → Int32} {M_right : Nat → Int32} {M_pivot : Nat → Int32} {M_live : Nat → Int32} {M_needed : Nat → Int32} {M_label : Nat → Int32} {M_tape : Nat → Int32} {M_of : Nat → Int64} {M_kept : Nat → Int64} {M_had : Nat → Int32} {M_told : Nat → Int64} {M_first : Nat → Int64} {M_second : Nat → Int64} {M_node : Nat → Int64} {M_nodeVariable : Nat → Int32} {M_nodeLow : Nat → Int32} {M_nodeHigh : Nat → Int32} {M_wait : Nat → Int32}  {k : Int32 → Prop} (h : p_M_refutation M_end k) :
    MTi l y_M_refutation b_M_refutation 1 (some .int) rm_M_refutation D ca tp [.ref (am 0)] (WM am ca M_clauses M_given M_end M_taped M_size M_at M_to M_sort M_worth M_faultKind M_faultPlace M_isTold M_nodes M_plain M_minus M_block M_left M_right M_pivot M_live M_needed M_label M_tape M_of M_kept M_had M_told M_first M_second M_node M_nodeVariable M_nodeLow M_nodeHigh M_wait)
      (fun r (_ : Unit) => k r)
      (fun (_ : Unit) => WM am ca M_clauses M_given M_end M_taped M_size M_at M_to M_sort M_worth M_faultKind M_faultPlace M_isTold M_nodes M_plain M_minus M_block M_left M_right M_pivot M_live M_needed M_label M_tape M_of M_kept M_had M_told M_first M_second M_node M_nodeVariable M_nodeLow M_nodeHigh M_wait) 0 0 := by
  refine x_entryi (own := R_M) (nm := "refutation") (by decide) rfl rfl (Nat.le_of_ble_eq_true rfl) (fun p e s m below meth c A ls C0 hw hl => ?_)
  have hx := C0.1
  have hb := C0.2.1
  have hl : lv_has ls 1 [(0, .ref (am 0))] := hl
  unfold p_M_refutation at h
  refine lv_aload_n hx hb d_M_refutation_0 rfl (lv_at hl 0 rfl) ?_
  refine x_get C0 hw 0 rfl rfl i_M 10 (by decide) wm_735 rfl rfl d_M_refutation_1 ?_
  exact x_iret C0 hw () h rfl d_M_refutation_4
theorem g_M_isThere : GY y_M_isThere b_M_isThere 4 (some .boolean) 2 := ⟨wm_905, wm_62, by decide +kernel, by decide +kernel, by decide +kernel⟩
def p_M_isThere_L2 (M_clauses : Int32) (M_plain : Nat → Int32) (M_minus : Nat → Int32) (x1 : Int32) (x2 : Int32) (k : Int32 → Prop) : Nat → Int32 → Prop
  | 0, _ => False
  | n + 1, x3 =>
    ((M_clauses < x3 → (k (0 : Int32))) ∧ (¬ M_clauses < x3 → (vp_in x3 202 ∧ ((¬ (M_plain x3.toNatClampNeg) = x1 → (p_M_isThere_L2 M_clauses M_plain M_minus x1 x2 k n (x3 + 1))) ∧ ((M_plain x3.toNatClampNeg) = x1 → ((¬ (M_minus x3.toNatClampNeg) = x2 → (p_M_isThere_L2 M_clauses M_plain M_minus x1 x2 k n (x3 + 1))) ∧ ((M_minus x3.toNatClampNeg) = x2 → (k (1 : Int32)))))))))
def p_M_isThere (M_clauses : Int32) (M_plain : Nat → Int32) (M_minus : Nat → Int32) (x1 : Int32) (x2 : Int32) (k : Int32 → Prop) : Prop :=
  (∃ j_5, p_M_isThere_L2 M_clauses M_plain M_minus x1 x2 k j_5 (1 : Int32))
abbrev rm_M_isThere : Room := { frames := 0, cells := 0, slots := 0, locals := 0 }
set_option maxHeartbeats 4000000 in
set_option maxRecDepth 100000 in
theorem b_M_isThere_L2 {p : Program} {l : Launch} {e : Env} {s : State} {m : MethodId} {args : Array Value} {below : List Frame} {meth : Method} {c : Code} {D : va_G} {ca : Nat → ClassId} {tp : Nat} {A : Nat → Prop} {am : Nat → Nat} {M_clauses : Int32} {M_given : Int32} {M_end : Int32} {M_taped : Int32} {M_size : Int32} {M_at : Int32} {M_to : Int32} {M_sort : Int32} {M_worth : Int32} {M_faultKind : Int32} {M_faultPlace : Int32} {M_isTold : Int32} {M_nodes : Int32} {M_plain : Nat → Int32} {M_minus : Nat → Int32} {M_block : Nat → Int32} {M_left : Nat → Int32} {M_right : Nat → Int32} {M_pivot : Nat → Int32} {M_live : Nat → Int32} {M_needed : Nat → Int32} {M_label : Nat → Int32} {M_tape : Nat → Int32} {M_of : Nat → Int64} {M_kept : Nat → Int64} {M_had : Nat → Int32} {M_told : Nat → Int64} {M_first : Nat → Int64} {M_second : Nat → Int64} {M_node : Nat → Int64} {M_nodeVariable : Nat → Int32} {M_nodeLow : Nat → Int32} {M_nodeHigh : Nat → Int32} {M_wait : Nat → Int32} {x1 : Int32} {x2 : Int32} {k : Int32 → Prop}  (C0 : CX p s m args meth c b_M_isThere 4 (some .boolean) R_M "isThere" D ca tp A) :
    ∀ (n : Nat) (x3 : Int32) {H : Heap} {locs : List Loc} {ls : Array Slot}, p_M_isThere_L2 M_clauses M_plain M_minus x1 x2 k n x3 → WH D A s (WM am ca M_clauses M_given M_end M_taped M_size M_at M_to M_sort M_worth M_faultKind M_faultPlace M_isTold M_nodes M_plain M_minus M_block M_left M_right M_pivot M_live M_needed M_label M_tape M_of M_kept M_had M_told M_first M_second M_node M_nodeVariable M_nodeLow M_nodeHigh M_wait) H locs → lv_has ls 4 [(0, .ref (am 0)), (1, .int x1), (2, .int x2), (3, .int x3)] →
      W p l e rm_M_isThere s m args below meth c H locs 0 0 (QI D A below args s (fun r (_ : Unit) => k r) (fun (_ : Unit) => WM am ca M_clauses M_given M_end M_taped M_size M_at M_to M_sort M_worth M_faultKind M_faultPlace M_isTold M_nodes M_plain M_minus M_block M_left M_right M_pivot M_live M_needed M_label M_tape M_of M_kept M_had M_told M_first M_second M_node M_nodeVariable M_nodeLow M_nodeHigh M_wait) 0 0) (F0 m 2 ls []) := by
  have hx := C0.1
  have hb := C0.2.1
  intro n
  induction n with
  | zero =>
    intro x3 H locs ls h
    exact False.elim h
  | succ n ih =>
    intro x3 H locs ls h hw hl
    unfold p_M_isThere_L2 at h
    refine lv_iload_n hx hb d_M_isThere_2 rfl (lv_at hl 3 rfl) ?_
    refine lv_aload_n hx hb d_M_isThere_3 rfl (lv_at hl 0 rfl) ?_
    refine x_get C0 hw 0 rfl rfl i_M 8 (by decide) wm_733 rfl rfl d_M_isThere_4 ?_
    refine lv_icmp_gt (tgt := 38) hx hb d_M_isThere_7 (by decide) (fun c_1 => ?_) (fun c_1 => ?_)
    · have h := h.1 c_1
      refine lv_iconst (v := 0) hx hb d_M_isThere_38 (by decide) ?_
      exact x_zret C0 hw rfl () h rfl d_M_isThere_39
    · have h := h.2 c_1
      refine lv_aload_n hx hb d_M_isThere_10 rfl (lv_at hl 0 rfl) ?_
      refine x_get C0 hw 0 rfl rfl i_M 0 (by decide) wm_725 rfl rfl d_M_isThere_11 ?_
      refine lv_iload_n hx hb d_M_isThere_14 rfl (lv_at hl 3 rfl) ?_
      obtain ⟨hi_2, h⟩ := h
      refine x_iald C0 hw 1 rfl hi_2 d_M_isThere_15 ?_
      refine lv_iload_n hx hb d_M_isThere_16 rfl (lv_at hl 1 rfl) ?_
      refine lv_icmp_ne (tgt := 32) hx hb d_M_isThere_17 (by decide) (fun c_3 => ?_) (fun c_3 => ?_)
      · have h := h.1 c_3
        refine lv_iinc (v := (x3 + 1)) (lv' := [(3, .int (x3 + 1)), (0, .ref (am 0)), (1, .int x1), (2, .int x2)]) hx hb d_M_isThere_32 hl (k := 3) rfl rfl (by decide) rfl (fun ls hl => ?_)
        refine lv_goto (tgt := 2) hx hb d_M_isThere_35 (by decide) ?_
        exact ih _ h hw (lv_sub hl [1, 2, 3, 0] rfl)
      · have h := h.2 c_3
        refine lv_aload_n hx hb d_M_isThere_20 rfl (lv_at hl 0 rfl) ?_
        refine x_get C0 hw 0 rfl rfl i_M 1 (by decide) wm_726 rfl rfl d_M_isThere_21 ?_
        refine lv_iload_n hx hb d_M_isThere_24 rfl (lv_at hl 3 rfl) ?_
        refine x_iald C0 hw 2 rfl hi_2 d_M_isThere_25 ?_
        refine lv_iload_n hx hb d_M_isThere_26 rfl (lv_at hl 2 rfl) ?_
        refine lv_icmp_ne (tgt := 32) hx hb d_M_isThere_27 (by decide) (fun c_4 => ?_) (fun c_4 => ?_)
        · have h := h.1 c_4
          refine lv_iinc (v := (x3 + 1)) (lv' := [(3, .int (x3 + 1)), (0, .ref (am 0)), (1, .int x1), (2, .int x2)]) hx hb d_M_isThere_32 hl (k := 3) rfl rfl (by decide) rfl (fun ls hl => ?_)
          refine lv_goto (tgt := 2) hx hb d_M_isThere_35 (by decide) ?_
          exact ih _ h hw (lv_sub hl [1, 2, 3, 0] rfl)
        · have h := h.2 c_4
          refine lv_iconst (v := 1) hx hb d_M_isThere_30 (by decide) ?_
          exact x_zret C0 hw rfl () h rfl d_M_isThere_31
set_option maxHeartbeats 4000000 in
set_option maxRecDepth 100000 in
theorem c_M_isThere {l : Launch} {D : va_G} {ca : Nat → ClassId} {tp : Nat} {am : Nat → Nat} {M_clauses : Int32} {M_given : Int32} {M_end : Int32} {M_taped : Int32} {M_size : Int32} {M_at : Int32} {M_to : Int32} {M_sort : Int32} {M_worth : Int32} {M_faultKind : Int32} {M_faultPlace : Int32} {M_isTold : Int32} {M_nodes : Int32} {M_plain : Nat → Int32} {M_minus : Nat → Int32} {M_block : Nat → Int32} {M_left : Nat → Int32} {M_right : Nat → Int32} {M_pivot : Nat → Int32} {M_live : Nat → Int32} {M_needed : Nat → Int32} {M_label : Nat → Int32} {M_tape : Nat → Int32} {M_of : Nat → Int64} {M_kept : Nat → Int64} {M_had : Nat → Int32} {M_told : Nat → Int64} {M_first : Nat → Int64} {M_second : Nat → Int64} {M_node : Nat → Int64} {M_nodeVariable : Nat → Int32} {M_nodeLow : Nat → Int32} {M_nodeHigh : Nat → Int32} {M_wait : Nat → Int32} {x1 : Int32} {x2 : Int32} {k : Int32 → Prop} (h : p_M_isThere M_clauses M_plain M_minus x1 x2 k) :
    MTi l y_M_isThere b_M_isThere 4 (some .boolean) rm_M_isThere D ca tp [.ref (am 0), .int x1, .int x2] (WM am ca M_clauses M_given M_end M_taped M_size M_at M_to M_sort M_worth M_faultKind M_faultPlace M_isTold M_nodes M_plain M_minus M_block M_left M_right M_pivot M_live M_needed M_label M_tape M_of M_kept M_had M_told M_first M_second M_node M_nodeVariable M_nodeLow M_nodeHigh M_wait)
      (fun r (_ : Unit) => k r)
      (fun (_ : Unit) => WM am ca M_clauses M_given M_end M_taped M_size M_at M_to M_sort M_worth M_faultKind M_faultPlace M_isTold M_nodes M_plain M_minus M_block M_left M_right M_pivot M_live M_needed M_label M_tape M_of M_kept M_had M_told M_first M_second M_node M_nodeVariable M_nodeLow M_nodeHigh M_wait) 0 0 := by
  refine x_entryi (own := R_M) (nm := "isThere") (by decide) rfl rfl (Nat.le_of_ble_eq_true rfl) (fun p e s m below meth c A ls C0 hw hl => ?_)
  have hx := C0.1
  have hb := C0.2.1
  have hl : lv_has ls 4 [(0, .ref (am 0)), (1, .int x1), (2, .int x2)] := hl
  unfold p_M_isThere at h
  refine lv_iconst (v := 1) hx hb d_M_isThere_0 (by decide) ?_
  refine lv_istore_n (lv' := [(3, .int (1 : Int32)), (0, .ref (am 0)), (1, .int x1), (2, .int x2)]) hx hb d_M_isThere_1 rfl hl (by decide) rfl (fun ls hl => ?_)
  obtain ⟨j_5, h⟩ := h
  refine b_M_isThere_L2 C0 _ _ h hw (lv_sub hl [1, 2, 3, 0] rfl)
theorem g_M_eliminate : GY y_M_eliminate b_M_eliminate 9 (some .int) 1 := ⟨wm_901, wm_62, by decide +kernel, by decide +kernel, by decide +kernel⟩
def p_M_eliminate_L69 (x1 : Int32) (x2 : Int32) (x3 : Int32) (x5 : Int32) (k211 : Int32 → Int32 → Int32 → (Nat → Int32) → (Nat → Int32) → (Nat → Int32) → (Nat → Int32) → (Nat → Int32) → (Nat → Int32) → (Nat → Int32) → Prop) : Nat → Int32 → Int32 → Int32 → Int32 → (Nat → Int32) → (Nat → Int32) → (Nat → Int32) → (Nat → Int32) → (Nat → Int32) → (Nat → Int32) → (Nat → Int32) → Prop
  | 0, _, _, _, _, _, _, _, _, _, _, _ => False
  | n + 1, x4, x6, M_clauses, M_given, M_plain, M_minus, M_block, M_left, M_right, M_pivot, M_live =>
    ((x3 < x6 → (k211 x4 M_clauses M_given M_plain M_minus M_block M_left M_right M_pivot M_live)) ∧ (¬ x3 < x6 → ((x4 = 0 → (k211 x4 M_clauses M_given M_plain M_minus M_block M_left M_right M_pivot M_live)) ∧ (¬ x4 = 0 → (vp_in x6 202 ∧ (((M_live x6.toNatClampNeg) = 0 → (p_M_eliminate_L69 x1 x2 x3 x5 k211 n x4 (x6 + 1) M_clauses M_given M_plain M_minus M_block M_left M_right M_pivot M_live)) ∧ (¬ (M_live x6.toNatClampNeg) = 0 → ((¬ ((M_minus x6.toNatClampNeg) &&& x2) = 0 → (vp_in x5 202 ∧ (∀ v7_14 : Int32, v7_14 = (((M_plain x5.toNatClampNeg) &&& (x2 ^^^ (-1 : Int32))) ||| (M_plain x6.toNatClampNeg)) → (∀ v8_15 : Int32, v8_15 = ((M_minus x5.toNatClampNeg) ||| ((M_minus x6.toNatClampNeg) &&& (x2 ^^^ (-1 : Int32)))) → ((¬ (v7_14 &&& v8_15) = 0 → (p_M_eliminate_L69 x1 x2 x3 x5 k211 n x4 (x6 + 1) M_clauses M_given M_plain M_minus M_block M_left M_right M_pivot M_live)) ∧ ((v7_14 &&& v8_15) = 0 → (p_M_isThere M_clauses M_plain M_minus v7_14 v8_15 (fun (r_17 : Int32) => ((r_17 = 0 → (((200 : Int32) ≤ M_clauses → (((0 : Int32) = 0 → (p_M_eliminate_L69 x1 x2 x3 x5 k211 n (0 : Int32) (x6 + 1) M_clauses M_given M_plain M_minus M_block M_left M_right M_pivot M_live)) ∧ (¬ (0 : Int32) = 0 → (p_M_add M_clauses M_given M_plain M_minus M_block M_left M_right M_pivot M_live v7_14 v8_15 (0 : Int32) x5 x6 x1 (fun (M_clauses_21 : Int32) (M_given_22 : Int32) (M_plain_23 : Nat → Int32) (M_minus_24 : Nat → Int32) (M_block_25 : Nat → Int32) (M_left_26 : Nat → Int32) (M_right_27 : Nat → Int32) (M_pivot_28 : Nat → Int32) (M_live_29 : Nat → Int32) => (p_M_eliminate_L69 x1 x2 x3 x5 k211 n (0 : Int32) (x6 + 1) M_clauses_21 M_given_22 M_plain_23 M_minus_24 M_block_25 M_left_26 M_right_27 M_pivot_28 M_live_29)))))) ∧ (¬ (200 : Int32) ≤ M_clauses → (((1 : Int32) = 0 → (p_M_eliminate_L69 x1 x2 x3 x5 k211 n (1 : Int32) (x6 + 1) M_clauses M_given M_plain M_minus M_block M_left M_right M_pivot M_live)) ∧ (¬ (1 : Int32) = 0 → (p_M_add M_clauses M_given M_plain M_minus M_block M_left M_right M_pivot M_live v7_14 v8_15 (0 : Int32) x5 x6 x1 (fun (M_clauses_32 : Int32) (M_given_33 : Int32) (M_plain_34 : Nat → Int32) (M_minus_35 : Nat → Int32) (M_block_36 : Nat → Int32) (M_left_37 : Nat → Int32) (M_right_38 : Nat → Int32) (M_pivot_39 : Nat → Int32) (M_live_40 : Nat → Int32) => (p_M_eliminate_L69 x1 x2 x3 x5 k211 n (1 : Int32) (x6 + 1) M_clauses_32 M_given_33 M_plain_34 M_minus_35 M_block_36 M_left_37 M_right_38 M_pivot_39 M_live_40)))))))) ∧ (¬ r_17 = 0 → (p_M_eliminate_L69 x1 x2 x3 x5 k211 n x4 (x6 + 1) M_clauses M_given M_plain M_minus M_block M_left M_right M_pivot M_live))))))))))) ∧ (((M_minus x6.toNatClampNeg) &&& x2) = 0 → (p_M_eliminate_L69 x1 x2 x3 x5 k211 n x4 (x6 + 1) M_clauses M_given M_plain M_minus M_block M_left M_right M_pivot M_live))))))))))
def p_M_eliminate_L30 (x1 : Int32) (x2 : Int32) (x3 : Int32) (k217 : Int32 → Int32 → Int32 → (Nat → Int32) → (Nat → Int32) → (Nat → Int32) → (Nat → Int32) → (Nat → Int32) → (Nat → Int32) → (Nat → Int32) → Prop) : Nat → Int32 → Int32 → Int32 → Int32 → (Nat → Int32) → (Nat → Int32) → (Nat → Int32) → (Nat → Int32) → (Nat → Int32) → (Nat → Int32) → (Nat → Int32) → Prop
  | 0, _, _, _, _, _, _, _, _, _, _, _ => False
  | n + 1, x4, x5, M_clauses, M_given, M_plain, M_minus, M_block, M_left, M_right, M_pivot, M_live =>
    ((x3 < x5 → (k217 x4 M_clauses M_given M_plain M_minus M_block M_left M_right M_pivot M_live)) ∧ (¬ x3 < x5 → ((x4 = 0 → (k217 x4 M_clauses M_given M_plain M_minus M_block M_left M_right M_pivot M_live)) ∧ (¬ x4 = 0 → (vp_in x5 202 ∧ (((M_live x5.toNatClampNeg) = 0 → (p_M_eliminate_L30 x1 x2 x3 k217 n x4 (x5 + 1) M_clauses M_given M_plain M_minus M_block M_left M_right M_pivot M_live)) ∧ (¬ (M_live x5.toNatClampNeg) = 0 → ((¬ ((M_plain x5.toNatClampNeg) &&& x2) = 0 → (∃ j_52, p_M_eliminate_L69 x1 x2 x3 x5 (fun (x4_42 : Int32) (M_clauses_43 : Int32) (M_given_44 : Int32) (M_plain_45 : Nat → Int32) (M_minus_46 : Nat → Int32) (M_block_47 : Nat → Int32) (M_left_48 : Nat → Int32) (M_right_49 : Nat → Int32) (M_pivot_50 : Nat → Int32) (M_live_51 : Nat → Int32) => (p_M_eliminate_L30 x1 x2 x3 k217 n x4_42 (x5 + 1) M_clauses_43 M_given_44 M_plain_45 M_minus_46 M_block_47 M_left_48 M_right_49 M_pivot_50 M_live_51)) j_52 x4 (1 : Int32) M_clauses M_given M_plain M_minus M_block M_left M_right M_pivot M_live)) ∧ (((M_plain x5.toNatClampNeg) &&& x2) = 0 → (p_M_eliminate_L30 x1 x2 x3 k217 n x4 (x5 + 1) M_clauses M_given M_plain M_minus M_block M_left M_right M_pivot M_live))))))))))
def p_M_eliminate_L233 (M_clauses : Int32) (M_given : Int32) (M_plain : Nat → Int32) (M_minus : Nat → Int32) (M_block : Nat → Int32) (M_left : Nat → Int32) (M_right : Nat → Int32) (M_pivot : Nat → Int32) (M_needed : Nat → Int32) (x2 : Int32) (x3 : Int32) (k : Int32 → Int32 → Int32 → Int32 → (Nat → Int32) → (Nat → Int32) → (Nat → Int32) → (Nat → Int32) → (Nat → Int32) → (Nat → Int32) → (Nat → Int32) → (Nat → Int32) → Prop) : Nat → Int32 → (Nat → Int32) → Prop
  | 0, _, _ => False
  | n + 1, x5, M_live =>
    ((x3 < x5 → (p_M_find M_clauses M_plain M_minus M_block M_left M_right M_needed (fun (M_end_65 : Int32) (M_needed_66 : Nat → Int32) => (k (M_clauses - x3) M_clauses M_given M_end_65 M_plain M_minus M_block M_left M_right M_pivot M_live M_needed_66)))) ∧ (¬ x3 < x5 → (vp_in x5 202 ∧ (((((M_plain x5.toNatClampNeg) ||| (M_minus x5.toNatClampNeg)) &&& x2) = 0 → (p_M_eliminate_L233 M_clauses M_given M_plain M_minus M_block M_left M_right M_pivot M_needed x2 x3 k n (x5 + 1) M_live)) ∧ (¬ (((M_plain x5.toNatClampNeg) ||| (M_minus x5.toNatClampNeg)) &&& x2) = 0 → (p_M_eliminate_L233 M_clauses M_given M_plain M_minus M_block M_left M_right M_pivot M_needed x2 x3 k n (x5 + 1) (upd M_live x5.toNatClampNeg (0 : Int32))))))))
def p_M_eliminate_J217 (k : Int32 → Int32 → Int32 → Int32 → (Nat → Int32) → (Nat → Int32) → (Nat → Int32) → (Nat → Int32) → (Nat → Int32) → (Nat → Int32) → (Nat → Int32) → (Nat → Int32) → Prop) (x2 : Int32) (x3 : Int32) (x4 : Int32) (M_clauses : Int32) (M_given : Int32) (M_end : Int32) (M_plain : Nat → Int32) (M_minus : Nat → Int32) (M_block : Nat → Int32) (M_left : Nat → Int32) (M_right : Nat → Int32) (M_pivot : Nat → Int32) (M_live : Nat → Int32) (M_needed : Nat → Int32) : Prop :=
  ((¬ x4 = 0 → (∃ j_70, p_M_eliminate_L233 M_clauses M_given M_plain M_minus M_block M_left M_right M_pivot M_needed x2 x3 k j_70 (1 : Int32) M_live)) ∧ (x4 = 0 → (k (-3 : Int32) x3 M_given M_end M_plain M_minus M_block M_left M_right M_pivot M_live M_needed)))
def p_M_eliminate (M_clauses : Int32) (M_given : Int32) (M_end : Int32) (M_plain : Nat → Int32) (M_minus : Nat → Int32) (M_block : Nat → Int32) (M_left : Nat → Int32) (M_right : Nat → Int32) (M_pivot : Nat → Int32) (M_live : Nat → Int32) (M_needed : Nat → Int32) (x1 : Int32) (k : Int32 → Int32 → Int32 → Int32 → (Nat → Int32) → (Nat → Int32) → (Nat → Int32) → (Nat → Int32) → (Nat → Int32) → (Nat → Int32) → (Nat → Int32) → (Nat → Int32) → Prop) : Prop :=
  (p_M_in x1 (1 : Int32) (10 : Int32) (fun (r_1 : Int32) => ((¬ r_1 = 0 → (∃ j_71, p_M_eliminate_L30 x1 ((1 : Int32) <<< ((x1 - (1 : Int32)) &&& 31)) M_clauses (fun (x4_53 : Int32) (M_clauses_54 : Int32) (M_given_55 : Int32) (M_plain_56 : Nat → Int32) (M_minus_57 : Nat → Int32) (M_block_58 : Nat → Int32) (M_left_59 : Nat → Int32) (M_right_60 : Nat → Int32) (M_pivot_61 : Nat → Int32) (M_live_62 : Nat → Int32) => (p_M_eliminate_J217 k ((1 : Int32) <<< ((x1 - (1 : Int32)) &&& 31)) M_clauses x4_53 M_clauses_54 M_given_55 M_end M_plain_56 M_minus_57 M_block_58 M_left_59 M_right_60 M_pivot_61 M_live_62 M_needed)) j_71 (1 : Int32) (1 : Int32) M_clauses M_given M_plain M_minus M_block M_left M_right M_pivot M_live)) ∧ (r_1 = 0 → (k (-2 : Int32) M_clauses M_given M_end M_plain M_minus M_block M_left M_right M_pivot M_live M_needed)))))
abbrev rm_M_eliminate : Room := { frames := 2, cells := 0, slots := 0, locals := 42 }
set_option maxHeartbeats 4000000 in
set_option maxRecDepth 100000 in
theorem b_M_eliminate_L69 {p : Program} {l : Launch} {e : Env} {s : State} {m : MethodId} {args : Array Value} {below : List Frame} {meth : Method} {c : Code} {D : va_G} {ca : Nat → ClassId} {tp : Nat} {A : Nat → Prop} {am : Nat → Nat} {M_end : Int32} {M_taped : Int32} {M_size : Int32} {M_at : Int32} {M_to : Int32} {M_sort : Int32} {M_worth : Int32} {M_faultKind : Int32} {M_faultPlace : Int32} {M_isTold : Int32} {M_nodes : Int32} {M_needed : Nat → Int32} {M_label : Nat → Int32} {M_tape : Nat → Int32} {M_of : Nat → Int64} {M_kept : Nat → Int64} {M_had : Nat → Int32} {M_told : Nat → Int64} {M_first : Nat → Int64} {M_second : Nat → Int64} {M_node : Nat → Int64} {M_nodeVariable : Nat → Int32} {M_nodeLow : Nat → Int32} {M_nodeHigh : Nat → Int32} {M_wait : Nat → Int32} {x1 : Int32} {x2 : Int32} {x3 : Int32} {x5 : Int32} {k : Int32 → Int32 → Int32 → Int32 → (Nat → Int32) → (Nat → Int32) → (Nat → Int32) → (Nat → Int32) → (Nat → Int32) → (Nat → Int32) → (Nat → Int32) → (Nat → Int32) → Prop} {k211 : Int32 → Int32 → Int32 → (Nat → Int32) → (Nat → Int32) → (Nat → Int32) → (Nat → Int32) → (Nat → Int32) → (Nat → Int32) → (Nat → Int32) → Prop} (C0 : CX p s m args meth c b_M_eliminate 9 (some .int) R_M "eliminate" D ca tp A) :
    ∀ (n : Nat) (x4 : Int32) (x6 : Int32) (M_clauses : Int32) (M_given : Int32) (M_plain : Nat → Int32) (M_minus : Nat → Int32) (M_block : Nat → Int32) (M_left : Nat → Int32) (M_right : Nat → Int32) (M_pivot : Nat → Int32) (M_live : Nat → Int32) {H : Heap} {locs : List Loc} {ls : Array Slot}, p_M_eliminate_L69 x1 x2 x3 x5 k211 n x4 x6 M_clauses M_given M_plain M_minus M_block M_left M_right M_pivot M_live → WH D A s (WM am ca M_clauses M_given M_end M_taped M_size M_at M_to M_sort M_worth M_faultKind M_faultPlace M_isTold M_nodes M_plain M_minus M_block M_left M_right M_pivot M_live M_needed M_label M_tape M_of M_kept M_had M_told M_first M_second M_node M_nodeVariable M_nodeLow M_nodeHigh M_wait) H locs → lv_has ls 9 [(0, .ref (am 0)), (1, .int x1), (2, .int x2), (3, .int x3), (4, .int x4), (5, .int x5), (6, .int x6)] →
      (∀ (x4 : Int32) (M_clauses : Int32) (M_given : Int32) (M_plain : Nat → Int32) (M_minus : Nat → Int32) (M_block : Nat → Int32) (M_left : Nat → Int32) (M_right : Nat → Int32) (M_pivot : Nat → Int32) (M_live : Nat → Int32) (H : Heap) (locs : List Loc) (ls : Array Slot), k211 x4 M_clauses M_given M_plain M_minus M_block M_left M_right M_pivot M_live → WH D A s (WM am ca M_clauses M_given M_end M_taped M_size M_at M_to M_sort M_worth M_faultKind M_faultPlace M_isTold M_nodes M_plain M_minus M_block M_left M_right M_pivot M_live M_needed M_label M_tape M_of M_kept M_had M_told M_first M_second M_node M_nodeVariable M_nodeLow M_nodeHigh M_wait) H locs → lv_has ls 9 [(0, .ref (am 0)), (1, .int x1), (2, .int x2), (3, .int x3), (4, .int x4), (5, .int x5)] → W p l e rm_M_eliminate s m args below meth c H locs 0 0 (QI D A below args s (fun r (u : Int32 × Int32 × Int32 × (Nat → Int32) × (Nat → Int32) × (Nat → Int32) × (Nat → Int32) × (Nat → Int32) × (Nat → Int32) × (Nat → Int32) × (Nat → Int32)) => k r u.1 u.2.1 u.2.2.1 u.2.2.2.1 u.2.2.2.2.1 u.2.2.2.2.2.1 u.2.2.2.2.2.2.1 u.2.2.2.2.2.2.2.1 u.2.2.2.2.2.2.2.2.1 u.2.2.2.2.2.2.2.2.2.1 u.2.2.2.2.2.2.2.2.2.2) (fun (u : Int32 × Int32 × Int32 × (Nat → Int32) × (Nat → Int32) × (Nat → Int32) × (Nat → Int32) × (Nat → Int32) × (Nat → Int32) × (Nat → Int32) × (Nat → Int32)) => WM am ca u.1 u.2.1 u.2.2.1 M_taped M_size M_at M_to M_sort M_worth M_faultKind M_faultPlace M_isTold M_nodes u.2.2.2.1 u.2.2.2.2.1 u.2.2.2.2.2.1 u.2.2.2.2.2.2.1 u.2.2.2.2.2.2.2.1 u.2.2.2.2.2.2.2.2.1 u.2.2.2.2.2.2.2.2.2.1 u.2.2.2.2.2.2.2.2.2.2 M_label M_tape M_of M_kept M_had M_told M_first M_second M_node M_nodeVariable M_nodeLow M_nodeHigh M_wait) 0 0) (F0 m 211 ls [])) →
      W p l e rm_M_eliminate s m args below meth c H locs 0 0 (QI D A below args s (fun r (u : Int32 × Int32 × Int32 × (Nat → Int32) × (Nat → Int32) × (Nat → Int32) × (Nat → Int32) × (Nat → Int32) × (Nat → Int32) × (Nat → Int32) × (Nat → Int32)) => k r u.1 u.2.1 u.2.2.1 u.2.2.2.1 u.2.2.2.2.1 u.2.2.2.2.2.1 u.2.2.2.2.2.2.1 u.2.2.2.2.2.2.2.1 u.2.2.2.2.2.2.2.2.1 u.2.2.2.2.2.2.2.2.2.1 u.2.2.2.2.2.2.2.2.2.2) (fun (u : Int32 × Int32 × Int32 × (Nat → Int32) × (Nat → Int32) × (Nat → Int32) × (Nat → Int32) × (Nat → Int32) × (Nat → Int32) × (Nat → Int32) × (Nat → Int32)) => WM am ca u.1 u.2.1 u.2.2.1 M_taped M_size M_at M_to M_sort M_worth M_faultKind M_faultPlace M_isTold M_nodes u.2.2.2.1 u.2.2.2.2.1 u.2.2.2.2.2.1 u.2.2.2.2.2.2.1 u.2.2.2.2.2.2.2.1 u.2.2.2.2.2.2.2.2.1 u.2.2.2.2.2.2.2.2.2.1 u.2.2.2.2.2.2.2.2.2.2 M_label M_tape M_of M_kept M_had M_told M_first M_second M_node M_nodeVariable M_nodeLow M_nodeHigh M_wait) 0 0) (F0 m 69 ls []) := by
  have hx := C0.1
  have hb := C0.2.1
  intro n
  induction n with
  | zero =>
    intro x4 x6 M_clauses M_given M_plain M_minus M_block M_left M_right M_pivot M_live H locs ls h
    exact False.elim h
  | succ n ih =>
    intro x4 x6 M_clauses M_given M_plain M_minus M_block M_left M_right M_pivot M_live H locs ls h hw hl h211
    unfold p_M_eliminate_L69 at h
    refine lv_iload hx hb d_M_eliminate_69 (lv_at hl 6 rfl) ?_
    refine lv_iload_n hx hb d_M_eliminate_71 rfl (lv_at hl 3 rfl) ?_
    refine lv_icmp_gt (tgt := 211) hx hb d_M_eliminate_72 (by decide) (fun c_8 => ?_) (fun c_8 => ?_)
    · have h := h.1 c_8
      exact h211 _ _ _ _ _ _ _ _ _ _ _ _ _ h hw (lv_sub hl [0, 1, 2, 3, 4, 5] rfl)
    · have h := h.2 c_8
      refine lv_iload hx hb d_M_eliminate_75 (lv_at hl 4 rfl) ?_
      refine lv_if_eq (tgt := 211) hx hb d_M_eliminate_77 (by decide) (fun c_9 => ?_) (fun c_9 => ?_)
      · have h := h.1 c_9
        exact h211 _ _ _ _ _ _ _ _ _ _ _ _ _ h hw (lv_sub hl [0, 1, 2, 3, 4, 5] rfl)
      · have h := h.2 c_9
        refine lv_aload_n hx hb d_M_eliminate_80 rfl (lv_at hl 0 rfl) ?_
        refine x_get C0 hw 0 rfl rfl i_M 6 (by decide) wm_731 rfl rfl d_M_eliminate_81 ?_
        refine lv_iload hx hb d_M_eliminate_84 (lv_at hl 6 rfl) ?_
        obtain ⟨hi_10, h⟩ := h
        refine x_zald C0 hw 7 rfl hi_10 d_M_eliminate_86 ?_
        refine lv_if_eq (tgt := 205) hx hb d_M_eliminate_87 (by decide) (fun c_11 => ?_) (fun c_11 => ?_)
        · have h := h.1 c_11
          refine lv_iinc (v := (x6 + 1)) (lv' := [(6, .int (x6 + 1)), (0, .ref (am 0)), (1, .int x1), (2, .int x2), (3, .int x3), (4, .int x4), (5, .int x5)]) hx hb d_M_eliminate_205 hl (k := 6) rfl rfl (by decide) rfl (fun ls hl => ?_)
          refine lv_goto (tgt := 69) hx hb d_M_eliminate_208 (by decide) ?_
          exact ih _ _ _ _ _ _ _ _ _ _ _ h hw (lv_sub hl [1, 2, 3, 4, 5, 6, 0] rfl) h211
        · have h := h.2 c_11
          refine lv_aload_n hx hb d_M_eliminate_90 rfl (lv_at hl 0 rfl) ?_
          refine x_get C0 hw 0 rfl rfl i_M 1 (by decide) wm_726 rfl rfl d_M_eliminate_91 ?_
          refine lv_iload hx hb d_M_eliminate_94 (lv_at hl 6 rfl) ?_
          refine x_iald C0 hw 2 rfl hi_10 d_M_eliminate_96 ?_
          refine lv_iload_n hx hb d_M_eliminate_97 rfl (lv_at hl 2 rfl) ?_
          refine lv_iand hx hb d_M_eliminate_98 ?_
          refine lv_if_ne (tgt := 105) hx hb d_M_eliminate_99 (by decide) (fun c_12 => ?_) (fun c_12 => ?_)
          · have h := h.1 c_12
            refine lv_aload_n hx hb d_M_eliminate_105 rfl (lv_at hl 0 rfl) ?_
            refine x_get C0 hw 0 rfl rfl i_M 0 (by decide) wm_725 rfl rfl d_M_eliminate_106 ?_
            refine lv_iload hx hb d_M_eliminate_109 (lv_at hl 5 rfl) ?_
            obtain ⟨hi_13, h⟩ := h
            refine x_iald C0 hw 1 rfl hi_13 d_M_eliminate_111 ?_
            refine lv_iload_n hx hb d_M_eliminate_112 rfl (lv_at hl 2 rfl) ?_
            refine lv_iconst (v := -1) hx hb d_M_eliminate_113 (by decide) ?_
            refine lv_ixor hx hb d_M_eliminate_114 ?_
            refine lv_iand hx hb d_M_eliminate_115 ?_
            refine lv_aload_n hx hb d_M_eliminate_116 rfl (lv_at hl 0 rfl) ?_
            refine x_get C0 hw 0 rfl rfl i_M 0 (by decide) wm_725 rfl rfl d_M_eliminate_117 ?_
            refine lv_iload hx hb d_M_eliminate_120 (lv_at hl 6 rfl) ?_
            refine x_iald C0 hw 1 rfl hi_10 d_M_eliminate_122 ?_
            refine lv_ior hx hb d_M_eliminate_123 ?_
            refine lv_topi (fun v7_14 e_v7_14 => ?_)
            have h := h v7_14 e_v7_14
            refine lv_istore (lv' := [(7, .int v7_14), (0, .ref (am 0)), (1, .int x1), (2, .int x2), (3, .int x3), (4, .int x4), (5, .int x5), (6, .int x6)]) hx hb d_M_eliminate_124 hl (by decide) rfl (fun ls hl => ?_)
            refine lv_aload_n hx hb d_M_eliminate_126 rfl (lv_at hl 1 rfl) ?_
            refine x_get C0 hw 0 rfl rfl i_M 1 (by decide) wm_726 rfl rfl d_M_eliminate_127 ?_
            refine lv_iload hx hb d_M_eliminate_130 (lv_at hl 6 rfl) ?_
            refine x_iald C0 hw 2 rfl hi_13 d_M_eliminate_132 ?_
            refine lv_aload_n hx hb d_M_eliminate_133 rfl (lv_at hl 1 rfl) ?_
            refine x_get C0 hw 0 rfl rfl i_M 1 (by decide) wm_726 rfl rfl d_M_eliminate_134 ?_
            refine lv_iload hx hb d_M_eliminate_137 (lv_at hl 7 rfl) ?_
            refine x_iald C0 hw 2 rfl hi_10 d_M_eliminate_139 ?_
            refine lv_iload_n hx hb d_M_eliminate_140 rfl (lv_at hl 3 rfl) ?_
            refine lv_iconst (v := -1) hx hb d_M_eliminate_141 (by decide) ?_
            refine lv_ixor hx hb d_M_eliminate_142 ?_
            refine lv_iand hx hb d_M_eliminate_143 ?_
            refine lv_ior hx hb d_M_eliminate_144 ?_
            refine lv_topi (fun v8_15 e_v8_15 => ?_)
            have h := h v8_15 e_v8_15
            refine lv_istore (lv' := [(8, .int v8_15), (7, .int v7_14), (0, .ref (am 0)), (1, .int x1), (2, .int x2), (3, .int x3), (4, .int x4), (5, .int x5), (6, .int x6)]) hx hb d_M_eliminate_145 hl (by decide) rfl (fun ls hl => ?_)
            refine lv_iload hx hb d_M_eliminate_147 (lv_at hl 1 rfl) ?_
            refine lv_iload hx hb d_M_eliminate_149 (lv_at hl 0 rfl) ?_
            refine lv_iand hx hb d_M_eliminate_151 ?_
            refine lv_if_ne (tgt := 205) hx hb d_M_eliminate_152 (by decide) (fun c_16 => ?_) (fun c_16 => ?_)
            · have h := h.1 c_16
              refine lv_iinc (v := (x6 + 1)) (lv' := [(6, .int (x6 + 1)), (8, .int v8_15), (7, .int v7_14), (0, .ref (am 0)), (1, .int x1), (2, .int x2), (3, .int x3), (4, .int x4), (5, .int x5)]) hx hb d_M_eliminate_205 hl (k := 8) rfl rfl (by decide) rfl (fun ls hl => ?_)
              refine lv_goto (tgt := 69) hx hb d_M_eliminate_208 (by decide) ?_
              exact ih _ _ _ _ _ _ _ _ _ _ _ h hw (lv_sub hl [3, 4, 5, 6, 7, 8, 0] rfl) h211
            · have h := h.2 c_16
              refine lv_aload_n hx hb d_M_eliminate_155 rfl (lv_at hl 2 rfl) ?_
              refine lv_iload hx hb d_M_eliminate_156 (lv_at hl 1 rfl) ?_
              refine lv_iload hx hb d_M_eliminate_158 (lv_at hl 0 rfl) ?_
              refine x_callVi C0 hw hl (c_M_isThere h) g_M_isThere wm_902 ⟨wm_42, wm_904⟩ 0 rfl rfl rfl (As := [.int v7_14, .int v8_15]) (rest := []) rfl rfl (Nat.le_of_ble_eq_true rfl) ⟨rfl, rfl⟩ ⟨Nat.le_of_ble_eq_true rfl, Nat.le_of_ble_eq_true rfl⟩ ⟨Nat.le_of_ble_eq_true rfl, Nat.le_of_ble_eq_true rfl⟩ d_M_eliminate_160 (fun r_17 u H locs h hw => ?_)
              refine lv_if_eq (tgt := 169) hx hb d_M_eliminate_163 (by decide) (fun c_18 => ?_) (fun c_18 => ?_)
              · have h := h.1 c_18
                refine lv_aload_n hx hb d_M_eliminate_169 rfl (lv_at hl 2 rfl) ?_
                refine x_get C0 hw 0 rfl rfl i_M 8 (by decide) wm_733 rfl rfl d_M_eliminate_170 ?_
                refine lv_sipush (v := 200) hx hb d_M_eliminate_173 (by decide) ?_
                refine lv_icmp_ge (tgt := 183) hx hb d_M_eliminate_176 (by decide) (fun c_19 => ?_) (fun c_19 => ?_)
                · have h := h.1 c_19
                  refine lv_iconst (v := 0) hx hb d_M_eliminate_183 (by decide) ?_
                  refine lv_istore (lv' := [(4, .int (0 : Int32)), (8, .int v8_15), (7, .int v7_14), (0, .ref (am 0)), (1, .int x1), (2, .int x2), (3, .int x3), (5, .int x5), (6, .int x6)]) hx hb d_M_eliminate_184 hl (by decide) rfl (fun ls hl => ?_)
                  refine lv_iload hx hb d_M_eliminate_186 (lv_at hl 0 rfl) ?_
                  refine lv_if_eq (tgt := 205) hx hb d_M_eliminate_188 (by decide) (fun c_20 => ?_) (fun c_20 => ?_)
                  · have h := h.1 c_20
                    refine lv_iinc (v := (x6 + 1)) (lv' := [(6, .int (x6 + 1)), (4, .int (0 : Int32)), (8, .int v8_15), (7, .int v7_14), (0, .ref (am 0)), (1, .int x1), (2, .int x2), (3, .int x3), (5, .int x5)]) hx hb d_M_eliminate_205 hl (k := 8) rfl rfl (by decide) rfl (fun ls hl => ?_)
                    refine lv_goto (tgt := 69) hx hb d_M_eliminate_208 (by decide) ?_
                    exact ih _ _ _ _ _ _ _ _ _ _ _ h hw (lv_sub hl [4, 5, 6, 7, 1, 8, 0] rfl) h211
                  · have h := h.2 c_20
                    refine lv_aload_n hx hb d_M_eliminate_191 rfl (lv_at hl 3 rfl) ?_
                    refine lv_iload hx hb d_M_eliminate_192 (lv_at hl 2 rfl) ?_
                    refine lv_iload hx hb d_M_eliminate_194 (lv_at hl 1 rfl) ?_
                    refine lv_iconst (v := 0) hx hb d_M_eliminate_196 (by decide) ?_
                    refine lv_iload hx hb d_M_eliminate_197 (lv_at hl 7 rfl) ?_
                    refine lv_iload hx hb d_M_eliminate_199 (lv_at hl 8 rfl) ?_
                    refine lv_iload_n hx hb d_M_eliminate_201 rfl (lv_at hl 4 rfl) ?_
                    refine x_callVv C0 hw hl (c_M_add h) g_M_add wm_859 ⟨wm_37, wm_861⟩ 0 rfl rfl rfl (As := [.int v7_14, .int v8_15, .int (0 : Int32), .int x5, .int x6, .int x1]) (rest := []) rfl rfl (Nat.le_of_ble_eq_true rfl) ⟨rfl, rfl⟩ ⟨Nat.le_of_ble_eq_true rfl, Nat.le_of_ble_eq_true rfl⟩ ⟨Nat.le_of_ble_eq_true rfl, Nat.le_of_ble_eq_true rfl⟩ d_M_eliminate_202 (fun u H locs h hw => ?_)
                    obtain ⟨M_clauses_21, M_given_22, M_plain_23, M_minus_24, M_block_25, M_left_26, M_right_27, M_pivot_28, M_live_29⟩ := u
                    refine lv_iinc (v := (x6 + 1)) (lv' := [(6, .int (x6 + 1)), (4, .int (0 : Int32)), (8, .int v8_15), (7, .int v7_14), (0, .ref (am 0)), (1, .int x1), (2, .int x2), (3, .int x3), (5, .int x5)]) hx hb d_M_eliminate_205 hl (k := 8) rfl rfl (by decide) rfl (fun ls hl => ?_)
                    refine lv_goto (tgt := 69) hx hb d_M_eliminate_208 (by decide) ?_
                    exact ih _ _ _ _ _ _ _ _ _ _ _ h hw (lv_sub hl [4, 5, 6, 7, 1, 8, 0] rfl) h211
                · have h := h.2 c_19
                  refine lv_iconst (v := 1) hx hb d_M_eliminate_179 (by decide) ?_
                  refine lv_goto (tgt := 184) hx hb d_M_eliminate_180 (by decide) ?_
                  refine lv_istore (lv' := [(4, .int (1 : Int32)), (8, .int v8_15), (7, .int v7_14), (0, .ref (am 0)), (1, .int x1), (2, .int x2), (3, .int x3), (5, .int x5), (6, .int x6)]) hx hb d_M_eliminate_184 hl (by decide) rfl (fun ls hl => ?_)
                  refine lv_iload hx hb d_M_eliminate_186 (lv_at hl 0 rfl) ?_
                  refine lv_if_eq (tgt := 205) hx hb d_M_eliminate_188 (by decide) (fun c_31 => ?_) (fun c_31 => ?_)
                  · have h := h.1 c_31
                    refine lv_iinc (v := (x6 + 1)) (lv' := [(6, .int (x6 + 1)), (4, .int (1 : Int32)), (8, .int v8_15), (7, .int v7_14), (0, .ref (am 0)), (1, .int x1), (2, .int x2), (3, .int x3), (5, .int x5)]) hx hb d_M_eliminate_205 hl (k := 8) rfl rfl (by decide) rfl (fun ls hl => ?_)
                    refine lv_goto (tgt := 69) hx hb d_M_eliminate_208 (by decide) ?_
                    exact ih _ _ _ _ _ _ _ _ _ _ _ h hw (lv_sub hl [4, 5, 6, 7, 1, 8, 0] rfl) h211
                  · have h := h.2 c_31
                    refine lv_aload_n hx hb d_M_eliminate_191 rfl (lv_at hl 3 rfl) ?_
                    refine lv_iload hx hb d_M_eliminate_192 (lv_at hl 2 rfl) ?_
                    refine lv_iload hx hb d_M_eliminate_194 (lv_at hl 1 rfl) ?_
                    refine lv_iconst (v := 0) hx hb d_M_eliminate_196 (by decide) ?_
                    refine lv_iload hx hb d_M_eliminate_197 (lv_at hl 7 rfl) ?_
                    refine lv_iload hx hb d_M_eliminate_199 (lv_at hl 8 rfl) ?_
                    refine lv_iload_n hx hb d_M_eliminate_201 rfl (lv_at hl 4 rfl) ?_
                    refine x_callVv C0 hw hl (c_M_add h) g_M_add wm_859 ⟨wm_37, wm_861⟩ 0 rfl rfl rfl (As := [.int v7_14, .int v8_15, .int (0 : Int32), .int x5, .int x6, .int x1]) (rest := []) rfl rfl (Nat.le_of_ble_eq_true rfl) ⟨rfl, rfl⟩ ⟨Nat.le_of_ble_eq_true rfl, Nat.le_of_ble_eq_true rfl⟩ ⟨Nat.le_of_ble_eq_true rfl, Nat.le_of_ble_eq_true rfl⟩ d_M_eliminate_202 (fun u H locs h hw => ?_)
                    obtain ⟨M_clauses_32, M_given_33, M_plain_34, M_minus_35, M_block_36, M_left_37, M_right_38, M_pivot_39, M_live_40⟩ := u
                    refine lv_iinc (v := (x6 + 1)) (lv' := [(6, .int (x6 + 1)), (4, .int (1 : Int32)), (8, .int v8_15), (7, .int v7_14), (0, .ref (am 0)), (1, .int x1), (2, .int x2), (3, .int x3), (5, .int x5)]) hx hb d_M_eliminate_205 hl (k := 8) rfl rfl (by decide) rfl (fun ls hl => ?_)
                    refine lv_goto (tgt := 69) hx hb d_M_eliminate_208 (by decide) ?_
                    exact ih _ _ _ _ _ _ _ _ _ _ _ h hw (lv_sub hl [4, 5, 6, 7, 1, 8, 0] rfl) h211
              · have h := h.2 c_18
                refine lv_goto (tgt := 205) hx hb d_M_eliminate_166 (by decide) ?_
                refine lv_iinc (v := (x6 + 1)) (lv' := [(6, .int (x6 + 1)), (8, .int v8_15), (7, .int v7_14), (0, .ref (am 0)), (1, .int x1), (2, .int x2), (3, .int x3), (4, .int x4), (5, .int x5)]) hx hb d_M_eliminate_205 hl (k := 8) rfl rfl (by decide) rfl (fun ls hl => ?_)
                refine lv_goto (tgt := 69) hx hb d_M_eliminate_208 (by decide) ?_
                exact ih _ _ _ _ _ _ _ _ _ _ _ h hw (lv_sub hl [3, 4, 5, 6, 7, 8, 0] rfl) h211
          · have h := h.2 c_12
            refine lv_goto (tgt := 205) hx hb d_M_eliminate_102 (by decide) ?_
            refine lv_iinc (v := (x6 + 1)) (lv' := [(6, .int (x6 + 1)), (0, .ref (am 0)), (1, .int x1), (2, .int x2), (3, .int x3), (4, .int x4), (5, .int x5)]) hx hb d_M_eliminate_205 hl (k := 6) rfl rfl (by decide) rfl (fun ls hl => ?_)
            refine lv_goto (tgt := 69) hx hb d_M_eliminate_208 (by decide) ?_
            exact ih _ _ _ _ _ _ _ _ _ _ _ h hw (lv_sub hl [1, 2, 3, 4, 5, 6, 0] rfl) h211
set_option maxHeartbeats 4000000 in
set_option maxRecDepth 100000 in
theorem b_M_eliminate_L30 {p : Program} {l : Launch} {e : Env} {s : State} {m : MethodId} {args : Array Value} {below : List Frame} {meth : Method} {c : Code} {D : va_G} {ca : Nat → ClassId} {tp : Nat} {A : Nat → Prop} {am : Nat → Nat} {M_end : Int32} {M_taped : Int32} {M_size : Int32} {M_at : Int32} {M_to : Int32} {M_sort : Int32} {M_worth : Int32} {M_faultKind : Int32} {M_faultPlace : Int32} {M_isTold : Int32} {M_nodes : Int32} {M_needed : Nat → Int32} {M_label : Nat → Int32} {M_tape : Nat → Int32} {M_of : Nat → Int64} {M_kept : Nat → Int64} {M_had : Nat → Int32} {M_told : Nat → Int64} {M_first : Nat → Int64} {M_second : Nat → Int64} {M_node : Nat → Int64} {M_nodeVariable : Nat → Int32} {M_nodeLow : Nat → Int32} {M_nodeHigh : Nat → Int32} {M_wait : Nat → Int32} {x1 : Int32} {x2 : Int32} {x3 : Int32} {k : Int32 → Int32 → Int32 → Int32 → (Nat → Int32) → (Nat → Int32) → (Nat → Int32) → (Nat → Int32) → (Nat → Int32) → (Nat → Int32) → (Nat → Int32) → (Nat → Int32) → Prop} {k217 : Int32 → Int32 → Int32 → (Nat → Int32) → (Nat → Int32) → (Nat → Int32) → (Nat → Int32) → (Nat → Int32) → (Nat → Int32) → (Nat → Int32) → Prop} (C0 : CX p s m args meth c b_M_eliminate 9 (some .int) R_M "eliminate" D ca tp A) :
    ∀ (n : Nat) (x4 : Int32) (x5 : Int32) (M_clauses : Int32) (M_given : Int32) (M_plain : Nat → Int32) (M_minus : Nat → Int32) (M_block : Nat → Int32) (M_left : Nat → Int32) (M_right : Nat → Int32) (M_pivot : Nat → Int32) (M_live : Nat → Int32) {H : Heap} {locs : List Loc} {ls : Array Slot}, p_M_eliminate_L30 x1 x2 x3 k217 n x4 x5 M_clauses M_given M_plain M_minus M_block M_left M_right M_pivot M_live → WH D A s (WM am ca M_clauses M_given M_end M_taped M_size M_at M_to M_sort M_worth M_faultKind M_faultPlace M_isTold M_nodes M_plain M_minus M_block M_left M_right M_pivot M_live M_needed M_label M_tape M_of M_kept M_had M_told M_first M_second M_node M_nodeVariable M_nodeLow M_nodeHigh M_wait) H locs → lv_has ls 9 [(0, .ref (am 0)), (1, .int x1), (2, .int x2), (3, .int x3), (4, .int x4), (5, .int x5)] →
      (∀ (x4 : Int32) (M_clauses : Int32) (M_given : Int32) (M_plain : Nat → Int32) (M_minus : Nat → Int32) (M_block : Nat → Int32) (M_left : Nat → Int32) (M_right : Nat → Int32) (M_pivot : Nat → Int32) (M_live : Nat → Int32) (H : Heap) (locs : List Loc) (ls : Array Slot), k217 x4 M_clauses M_given M_plain M_minus M_block M_left M_right M_pivot M_live → WH D A s (WM am ca M_clauses M_given M_end M_taped M_size M_at M_to M_sort M_worth M_faultKind M_faultPlace M_isTold M_nodes M_plain M_minus M_block M_left M_right M_pivot M_live M_needed M_label M_tape M_of M_kept M_had M_told M_first M_second M_node M_nodeVariable M_nodeLow M_nodeHigh M_wait) H locs → lv_has ls 9 [(0, .ref (am 0)), (2, .int x2), (3, .int x3), (4, .int x4)] → W p l e rm_M_eliminate s m args below meth c H locs 0 0 (QI D A below args s (fun r (u : Int32 × Int32 × Int32 × (Nat → Int32) × (Nat → Int32) × (Nat → Int32) × (Nat → Int32) × (Nat → Int32) × (Nat → Int32) × (Nat → Int32) × (Nat → Int32)) => k r u.1 u.2.1 u.2.2.1 u.2.2.2.1 u.2.2.2.2.1 u.2.2.2.2.2.1 u.2.2.2.2.2.2.1 u.2.2.2.2.2.2.2.1 u.2.2.2.2.2.2.2.2.1 u.2.2.2.2.2.2.2.2.2.1 u.2.2.2.2.2.2.2.2.2.2) (fun (u : Int32 × Int32 × Int32 × (Nat → Int32) × (Nat → Int32) × (Nat → Int32) × (Nat → Int32) × (Nat → Int32) × (Nat → Int32) × (Nat → Int32) × (Nat → Int32)) => WM am ca u.1 u.2.1 u.2.2.1 M_taped M_size M_at M_to M_sort M_worth M_faultKind M_faultPlace M_isTold M_nodes u.2.2.2.1 u.2.2.2.2.1 u.2.2.2.2.2.1 u.2.2.2.2.2.2.1 u.2.2.2.2.2.2.2.1 u.2.2.2.2.2.2.2.2.1 u.2.2.2.2.2.2.2.2.2.1 u.2.2.2.2.2.2.2.2.2.2 M_label M_tape M_of M_kept M_had M_told M_first M_second M_node M_nodeVariable M_nodeLow M_nodeHigh M_wait) 0 0) (F0 m 217 ls [])) →
      W p l e rm_M_eliminate s m args below meth c H locs 0 0 (QI D A below args s (fun r (u : Int32 × Int32 × Int32 × (Nat → Int32) × (Nat → Int32) × (Nat → Int32) × (Nat → Int32) × (Nat → Int32) × (Nat → Int32) × (Nat → Int32) × (Nat → Int32)) => k r u.1 u.2.1 u.2.2.1 u.2.2.2.1 u.2.2.2.2.1 u.2.2.2.2.2.1 u.2.2.2.2.2.2.1 u.2.2.2.2.2.2.2.1 u.2.2.2.2.2.2.2.2.1 u.2.2.2.2.2.2.2.2.2.1 u.2.2.2.2.2.2.2.2.2.2) (fun (u : Int32 × Int32 × Int32 × (Nat → Int32) × (Nat → Int32) × (Nat → Int32) × (Nat → Int32) × (Nat → Int32) × (Nat → Int32) × (Nat → Int32) × (Nat → Int32)) => WM am ca u.1 u.2.1 u.2.2.1 M_taped M_size M_at M_to M_sort M_worth M_faultKind M_faultPlace M_isTold M_nodes u.2.2.2.1 u.2.2.2.2.1 u.2.2.2.2.2.1 u.2.2.2.2.2.2.1 u.2.2.2.2.2.2.2.1 u.2.2.2.2.2.2.2.2.1 u.2.2.2.2.2.2.2.2.2.1 u.2.2.2.2.2.2.2.2.2.2 M_label M_tape M_of M_kept M_had M_told M_first M_second M_node M_nodeVariable M_nodeLow M_nodeHigh M_wait) 0 0) (F0 m 30 ls []) := by
  have hx := C0.1
  have hb := C0.2.1
  intro n
  induction n with
  | zero =>
    intro x4 x5 M_clauses M_given M_plain M_minus M_block M_left M_right M_pivot M_live H locs ls h
    exact False.elim h
  | succ n ih =>
    intro x4 x5 M_clauses M_given M_plain M_minus M_block M_left M_right M_pivot M_live H locs ls h hw hl h217
    unfold p_M_eliminate_L30 at h
    refine lv_iload hx hb d_M_eliminate_30 (lv_at hl 5 rfl) ?_
    refine lv_iload_n hx hb d_M_eliminate_32 rfl (lv_at hl 3 rfl) ?_
    refine lv_icmp_gt (tgt := 217) hx hb d_M_eliminate_33 (by decide) (fun c_3 => ?_) (fun c_3 => ?_)
    · have h := h.1 c_3
      exact h217 _ _ _ _ _ _ _ _ _ _ _ _ _ h hw (lv_sub hl [0, 2, 3, 4] rfl)
    · have h := h.2 c_3
      refine lv_iload hx hb d_M_eliminate_36 (lv_at hl 4 rfl) ?_
      refine lv_if_eq (tgt := 217) hx hb d_M_eliminate_38 (by decide) (fun c_4 => ?_) (fun c_4 => ?_)
      · have h := h.1 c_4
        exact h217 _ _ _ _ _ _ _ _ _ _ _ _ _ h hw (lv_sub hl [0, 2, 3, 4] rfl)
      · have h := h.2 c_4
        refine lv_aload_n hx hb d_M_eliminate_41 rfl (lv_at hl 0 rfl) ?_
        refine x_get C0 hw 0 rfl rfl i_M 6 (by decide) wm_731 rfl rfl d_M_eliminate_42 ?_
        refine lv_iload hx hb d_M_eliminate_45 (lv_at hl 5 rfl) ?_
        obtain ⟨hi_5, h⟩ := h
        refine x_zald C0 hw 7 rfl hi_5 d_M_eliminate_47 ?_
        refine lv_if_eq (tgt := 211) hx hb d_M_eliminate_48 (by decide) (fun c_6 => ?_) (fun c_6 => ?_)
        · have h := h.1 c_6
          refine lv_iinc (v := (x5 + 1)) (lv' := [(5, .int (x5 + 1)), (0, .ref (am 0)), (1, .int x1), (2, .int x2), (3, .int x3), (4, .int x4)]) hx hb d_M_eliminate_211 hl (k := 5) rfl rfl (by decide) rfl (fun ls hl => ?_)
          refine lv_goto (tgt := 30) hx hb d_M_eliminate_214 (by decide) ?_
          exact ih _ _ _ _ _ _ _ _ _ _ _ h hw (lv_sub hl [1, 2, 3, 4, 5, 0] rfl) h217
        · have h := h.2 c_6
          refine lv_aload_n hx hb d_M_eliminate_51 rfl (lv_at hl 0 rfl) ?_
          refine x_get C0 hw 0 rfl rfl i_M 0 (by decide) wm_725 rfl rfl d_M_eliminate_52 ?_
          refine lv_iload hx hb d_M_eliminate_55 (lv_at hl 5 rfl) ?_
          refine x_iald C0 hw 1 rfl hi_5 d_M_eliminate_57 ?_
          refine lv_iload_n hx hb d_M_eliminate_58 rfl (lv_at hl 2 rfl) ?_
          refine lv_iand hx hb d_M_eliminate_59 ?_
          refine lv_if_ne (tgt := 66) hx hb d_M_eliminate_60 (by decide) (fun c_7 => ?_) (fun c_7 => ?_)
          · have h := h.1 c_7
            refine lv_iconst (v := 1) hx hb d_M_eliminate_66 (by decide) ?_
            refine lv_istore (lv' := [(6, .int (1 : Int32)), (0, .ref (am 0)), (1, .int x1), (2, .int x2), (3, .int x3), (4, .int x4), (5, .int x5)]) hx hb d_M_eliminate_67 hl (by decide) rfl (fun ls hl => ?_)
            obtain ⟨j_52, h⟩ := h
            refine b_M_eliminate_L69 C0 _ _ _ _ _ _ _ _ _ _ _ _ h hw (lv_sub hl [1, 2, 3, 4, 5, 6, 0] rfl) (fun x4_42 M_clauses_43 M_given_44 M_plain_45 M_minus_46 M_block_47 M_left_48 M_right_49 M_pivot_50 M_live_51 H locs ls h hw hl => ?_)
            refine lv_iinc (v := (x5 + 1)) (lv' := [(5, .int (x5 + 1)), (0, .ref (am 0)), (1, .int x1), (2, .int x2), (3, .int x3), (4, .int x4_42)]) hx hb d_M_eliminate_211 hl (k := 5) rfl rfl (by decide) rfl (fun ls hl => ?_)
            refine lv_goto (tgt := 30) hx hb d_M_eliminate_214 (by decide) ?_
            exact ih _ _ _ _ _ _ _ _ _ _ _ h hw (lv_sub hl [1, 2, 3, 4, 5, 0] rfl) h217
          · have h := h.2 c_7
            refine lv_goto (tgt := 211) hx hb d_M_eliminate_63 (by decide) ?_
            refine lv_iinc (v := (x5 + 1)) (lv' := [(5, .int (x5 + 1)), (0, .ref (am 0)), (1, .int x1), (2, .int x2), (3, .int x3), (4, .int x4)]) hx hb d_M_eliminate_211 hl (k := 5) rfl rfl (by decide) rfl (fun ls hl => ?_)
            refine lv_goto (tgt := 30) hx hb d_M_eliminate_214 (by decide) ?_
            exact ih _ _ _ _ _ _ _ _ _ _ _ h hw (lv_sub hl [1, 2, 3, 4, 5, 0] rfl) h217
set_option maxHeartbeats 4000000 in
set_option maxRecDepth 100000 in
theorem b_M_eliminate_L233 {p : Program} {l : Launch} {e : Env} {s : State} {m : MethodId} {args : Array Value} {below : List Frame} {meth : Method} {c : Code} {D : va_G} {ca : Nat → ClassId} {tp : Nat} {A : Nat → Prop} {am : Nat → Nat} {M_clauses : Int32} {M_given : Int32} {M_end : Int32} {M_taped : Int32} {M_size : Int32} {M_at : Int32} {M_to : Int32} {M_sort : Int32} {M_worth : Int32} {M_faultKind : Int32} {M_faultPlace : Int32} {M_isTold : Int32} {M_nodes : Int32} {M_plain : Nat → Int32} {M_minus : Nat → Int32} {M_block : Nat → Int32} {M_left : Nat → Int32} {M_right : Nat → Int32} {M_pivot : Nat → Int32} {M_needed : Nat → Int32} {M_label : Nat → Int32} {M_tape : Nat → Int32} {M_of : Nat → Int64} {M_kept : Nat → Int64} {M_had : Nat → Int32} {M_told : Nat → Int64} {M_first : Nat → Int64} {M_second : Nat → Int64} {M_node : Nat → Int64} {M_nodeVariable : Nat → Int32} {M_nodeLow : Nat → Int32} {M_nodeHigh : Nat → Int32} {M_wait : Nat → Int32} {x2 : Int32} {x3 : Int32} {k : Int32 → Int32 → Int32 → Int32 → (Nat → Int32) → (Nat → Int32) → (Nat → Int32) → (Nat → Int32) → (Nat → Int32) → (Nat → Int32) → (Nat → Int32) → (Nat → Int32) → Prop}  (C0 : CX p s m args meth c b_M_eliminate 9 (some .int) R_M "eliminate" D ca tp A) :
    ∀ (n : Nat) (x5 : Int32) (M_live : Nat → Int32) {H : Heap} {locs : List Loc} {ls : Array Slot}, p_M_eliminate_L233 M_clauses M_given M_plain M_minus M_block M_left M_right M_pivot M_needed x2 x3 k n x5 M_live → WH D A s (WM am ca M_clauses M_given M_end M_taped M_size M_at M_to M_sort M_worth M_faultKind M_faultPlace M_isTold M_nodes M_plain M_minus M_block M_left M_right M_pivot M_live M_needed M_label M_tape M_of M_kept M_had M_told M_first M_second M_node M_nodeVariable M_nodeLow M_nodeHigh M_wait) H locs → lv_has ls 9 [(0, .ref (am 0)), (2, .int x2), (3, .int x3), (5, .int x5)] →
      W p l e rm_M_eliminate s m args below meth c H locs 0 0 (QI D A below args s (fun r (u : Int32 × Int32 × Int32 × (Nat → Int32) × (Nat → Int32) × (Nat → Int32) × (Nat → Int32) × (Nat → Int32) × (Nat → Int32) × (Nat → Int32) × (Nat → Int32)) => k r u.1 u.2.1 u.2.2.1 u.2.2.2.1 u.2.2.2.2.1 u.2.2.2.2.2.1 u.2.2.2.2.2.2.1 u.2.2.2.2.2.2.2.1 u.2.2.2.2.2.2.2.2.1 u.2.2.2.2.2.2.2.2.2.1 u.2.2.2.2.2.2.2.2.2.2) (fun (u : Int32 × Int32 × Int32 × (Nat → Int32) × (Nat → Int32) × (Nat → Int32) × (Nat → Int32) × (Nat → Int32) × (Nat → Int32) × (Nat → Int32) × (Nat → Int32)) => WM am ca u.1 u.2.1 u.2.2.1 M_taped M_size M_at M_to M_sort M_worth M_faultKind M_faultPlace M_isTold M_nodes u.2.2.2.1 u.2.2.2.2.1 u.2.2.2.2.2.1 u.2.2.2.2.2.2.1 u.2.2.2.2.2.2.2.1 u.2.2.2.2.2.2.2.2.1 u.2.2.2.2.2.2.2.2.2.1 u.2.2.2.2.2.2.2.2.2.2 M_label M_tape M_of M_kept M_had M_told M_first M_second M_node M_nodeVariable M_nodeLow M_nodeHigh M_wait) 0 0) (F0 m 233 ls []) := by
  have hx := C0.1
  have hb := C0.2.1
  intro n
  induction n with
  | zero =>
    intro x5 M_live H locs ls h
    exact False.elim h
  | succ n ih =>
    intro x5 M_live H locs ls h hw hl
    unfold p_M_eliminate_L233 at h
    refine lv_iload hx hb d_M_eliminate_233 (lv_at hl 3 rfl) ?_
    refine lv_iload_n hx hb d_M_eliminate_235 rfl (lv_at hl 2 rfl) ?_
    refine lv_icmp_gt (tgt := 273) hx hb d_M_eliminate_236 (by decide) (fun c_64 => ?_) (fun c_64 => ?_)
    · have h := h.1 c_64
      refine lv_aload_n hx hb d_M_eliminate_273 rfl (lv_at hl 0 rfl) ?_
      refine x_callVv C0 hw hl (c_M_find h) g_M_find wm_871 ⟨wm_40, wm_873⟩ 0 rfl rfl rfl (As := []) (rest := []) rfl rfl (Nat.le_of_ble_eq_true rfl) ⟨rfl, rfl⟩ ⟨Nat.le_of_ble_eq_true rfl, Nat.le_of_ble_eq_true rfl⟩ ⟨Nat.le_of_ble_eq_true rfl, Nat.le_of_ble_eq_true rfl⟩ d_M_eliminate_274 (fun u H locs h hw => ?_)
      obtain ⟨M_end_65, M_needed_66⟩ := u
      refine lv_aload_n hx hb d_M_eliminate_277 rfl (lv_at hl 0 rfl) ?_
      refine x_get C0 hw 0 rfl rfl i_M 8 (by decide) wm_733 rfl rfl d_M_eliminate_278 ?_
      refine lv_iload_n hx hb d_M_eliminate_281 rfl (lv_at hl 2 rfl) ?_
      refine lv_isub hx hb d_M_eliminate_282 ?_
      exact x_iret C0 hw (M_clauses, M_given, M_end_65, M_plain, M_minus, M_block, M_left, M_right, M_pivot, M_live, M_needed_66) h rfl d_M_eliminate_283
    · have h := h.2 c_64
      refine lv_aload_n hx hb d_M_eliminate_239 rfl (lv_at hl 0 rfl) ?_
      refine x_get C0 hw 0 rfl rfl i_M 0 (by decide) wm_725 rfl rfl d_M_eliminate_240 ?_
      refine lv_iload hx hb d_M_eliminate_243 (lv_at hl 3 rfl) ?_
      obtain ⟨hi_68, h⟩ := h
      refine x_iald C0 hw 1 rfl hi_68 d_M_eliminate_245 ?_
      refine lv_aload_n hx hb d_M_eliminate_246 rfl (lv_at hl 0 rfl) ?_
      refine x_get C0 hw 0 rfl rfl i_M 1 (by decide) wm_726 rfl rfl d_M_eliminate_247 ?_
      refine lv_iload hx hb d_M_eliminate_250 (lv_at hl 3 rfl) ?_
      refine x_iald C0 hw 2 rfl hi_68 d_M_eliminate_252 ?_
      refine lv_ior hx hb d_M_eliminate_253 ?_
      refine lv_iload_n hx hb d_M_eliminate_254 rfl (lv_at hl 1 rfl) ?_
      refine lv_iand hx hb d_M_eliminate_255 ?_
      refine lv_if_eq (tgt := 267) hx hb d_M_eliminate_256 (by decide) (fun c_69 => ?_) (fun c_69 => ?_)
      · have h := h.1 c_69
        refine lv_iinc (v := (x5 + 1)) (lv' := [(5, .int (x5 + 1)), (0, .ref (am 0)), (2, .int x2), (3, .int x3)]) hx hb d_M_eliminate_267 hl (k := 3) rfl rfl (by decide) rfl (fun ls hl => ?_)
        refine lv_goto (tgt := 233) hx hb d_M_eliminate_270 (by decide) ?_
        exact ih _ _ h hw (lv_sub hl [1, 2, 3, 0] rfl)
      · have h := h.2 c_69
        refine lv_aload_n hx hb d_M_eliminate_259 rfl (lv_at hl 0 rfl) ?_
        refine x_get C0 hw 0 rfl rfl i_M 6 (by decide) wm_731 rfl rfl d_M_eliminate_260 ?_
        refine lv_iload hx hb d_M_eliminate_263 (lv_at hl 3 rfl) ?_
        refine lv_iconst (v := 0) hx hb d_M_eliminate_265 (by decide) ?_
        refine x_zast C0 hw 7 rfl hi_68 (ws' := WM am ca M_clauses M_given M_end M_taped M_size M_at M_to M_sort M_worth M_faultKind M_faultPlace M_isTold M_nodes M_plain M_minus M_block M_left M_right M_pivot (upd M_live x5.toNatClampNeg (0 : Int32)) M_needed M_label M_tape M_of M_kept M_had M_told M_first M_second M_node M_nodeVariable M_nodeLow M_nodeHigh M_wait) rfl d_M_eliminate_266 (fun H locs hw => ?_)
        refine lv_iinc (v := (x5 + 1)) (lv' := [(5, .int (x5 + 1)), (0, .ref (am 0)), (2, .int x2), (3, .int x3)]) hx hb d_M_eliminate_267 hl (k := 3) rfl rfl (by decide) rfl (fun ls hl => ?_)
        refine lv_goto (tgt := 233) hx hb d_M_eliminate_270 (by decide) ?_
        exact ih _ _ h hw (lv_sub hl [1, 2, 3, 0] rfl)
set_option maxHeartbeats 4000000 in
set_option maxRecDepth 100000 in
theorem b_M_eliminate_J217 {p : Program} {l : Launch} {e : Env} {s : State} {m : MethodId} {args : Array Value} {below : List Frame} {meth : Method} {c : Code} {D : va_G} {ca : Nat → ClassId} {tp : Nat} {A : Nat → Prop} {am : Nat → Nat} {M_taped : Int32} {M_size : Int32} {M_at : Int32} {M_to : Int32} {M_sort : Int32} {M_worth : Int32} {M_faultKind : Int32} {M_faultPlace : Int32} {M_isTold : Int32} {M_nodes : Int32} {M_label : Nat → Int32} {M_tape : Nat → Int32} {M_of : Nat → Int64} {M_kept : Nat → Int64} {M_had : Nat → Int32} {M_told : Nat → Int64} {M_first : Nat → Int64} {M_second : Nat → Int64} {M_node : Nat → Int64} {M_nodeVariable : Nat → Int32} {M_nodeLow : Nat → Int32} {M_nodeHigh : Nat → Int32} {M_wait : Nat → Int32}  {k : Int32 → Int32 → Int32 → Int32 → (Nat → Int32) → (Nat → Int32) → (Nat → Int32) → (Nat → Int32) → (Nat → Int32) → (Nat → Int32) → (Nat → Int32) → (Nat → Int32) → Prop}  (C0 : CX p s m args meth c b_M_eliminate 9 (some .int) R_M "eliminate" D ca tp A) :
    ∀ (x2 : Int32) (x3 : Int32) (x4 : Int32) (M_clauses : Int32) (M_given : Int32) (M_end : Int32) (M_plain : Nat → Int32) (M_minus : Nat → Int32) (M_block : Nat → Int32) (M_left : Nat → Int32) (M_right : Nat → Int32) (M_pivot : Nat → Int32) (M_live : Nat → Int32) (M_needed : Nat → Int32) {H : Heap} {locs : List Loc} {ls : Array Slot}, p_M_eliminate_J217 k x2 x3 x4 M_clauses M_given M_end M_plain M_minus M_block M_left M_right M_pivot M_live M_needed → WH D A s (WM am ca M_clauses M_given M_end M_taped M_size M_at M_to M_sort M_worth M_faultKind M_faultPlace M_isTold M_nodes M_plain M_minus M_block M_left M_right M_pivot M_live M_needed M_label M_tape M_of M_kept M_had M_told M_first M_second M_node M_nodeVariable M_nodeLow M_nodeHigh M_wait) H locs → lv_has ls 9 [(0, .ref (am 0)), (2, .int x2), (3, .int x3), (4, .int x4)] →
      W p l e rm_M_eliminate s m args below meth c H locs 0 0 (QI D A below args s (fun r (u : Int32 × Int32 × Int32 × (Nat → Int32) × (Nat → Int32) × (Nat → Int32) × (Nat → Int32) × (Nat → Int32) × (Nat → Int32) × (Nat → Int32) × (Nat → Int32)) => k r u.1 u.2.1 u.2.2.1 u.2.2.2.1 u.2.2.2.2.1 u.2.2.2.2.2.1 u.2.2.2.2.2.2.1 u.2.2.2.2.2.2.2.1 u.2.2.2.2.2.2.2.2.1 u.2.2.2.2.2.2.2.2.2.1 u.2.2.2.2.2.2.2.2.2.2) (fun (u : Int32 × Int32 × Int32 × (Nat → Int32) × (Nat → Int32) × (Nat → Int32) × (Nat → Int32) × (Nat → Int32) × (Nat → Int32) × (Nat → Int32) × (Nat → Int32)) => WM am ca u.1 u.2.1 u.2.2.1 M_taped M_size M_at M_to M_sort M_worth M_faultKind M_faultPlace M_isTold M_nodes u.2.2.2.1 u.2.2.2.2.1 u.2.2.2.2.2.1 u.2.2.2.2.2.2.1 u.2.2.2.2.2.2.2.1 u.2.2.2.2.2.2.2.2.1 u.2.2.2.2.2.2.2.2.2.1 u.2.2.2.2.2.2.2.2.2.2 M_label M_tape M_of M_kept M_had M_told M_first M_second M_node M_nodeVariable M_nodeLow M_nodeHigh M_wait) 0 0) (F0 m 217 ls []) := by
  have hx := C0.1
  have hb := C0.2.1
  intro x2 x3 x4 M_clauses M_given M_end M_plain M_minus M_block M_left M_right M_pivot M_live M_needed H locs ls h hw hl
  unfold p_M_eliminate_J217 at h
  refine lv_iload hx hb d_M_eliminate_217 (lv_at hl 3 rfl) ?_
  refine lv_if_ne (tgt := 230) hx hb d_M_eliminate_219 (by decide) (fun c_63 => ?_) (fun c_63 => ?_)
  · have h := h.1 c_63
    refine lv_iconst (v := 1) hx hb d_M_eliminate_230 (by decide) ?_
    refine lv_istore (lv' := [(5, .int (1 : Int32)), (0, .ref (am 0)), (2, .int x2), (3, .int x3), (4, .int x4)]) hx hb d_M_eliminate_231 hl (by decide) rfl (fun ls hl => ?_)
    obtain ⟨j_70, h⟩ := h
    refine b_M_eliminate_L233 C0 _ _ _ h hw (lv_sub hl [1, 2, 3, 0] rfl)
  · have h := h.2 c_63
    refine lv_aload_n hx hb d_M_eliminate_222 rfl (lv_at hl 0 rfl) ?_
    refine lv_iload_n hx hb d_M_eliminate_223 rfl (lv_at hl 2 rfl) ?_
    refine x_put C0 hw 0 rfl rfl i_M tk_M n_M 8 (by decide) wm_733 rfl rfl rfl rfl (Nat.le_of_ble_eq_true rfl) (ws' := WM am ca x3 M_given M_end M_taped M_size M_at M_to M_sort M_worth M_faultKind M_faultPlace M_isTold M_nodes M_plain M_minus M_block M_left M_right M_pivot M_live M_needed M_label M_tape M_of M_kept M_had M_told M_first M_second M_node M_nodeVariable M_nodeLow M_nodeHigh M_wait) rfl d_M_eliminate_224 (fun H locs hw => ?_)
    refine lv_bipush (v := -3) hx hb d_M_eliminate_227 (by decide) ?_
    exact x_iret C0 hw (x3, M_given, M_end, M_plain, M_minus, M_block, M_left, M_right, M_pivot, M_live, M_needed) h rfl d_M_eliminate_229
set_option maxHeartbeats 4000000 in
set_option maxRecDepth 100000 in
theorem c_M_eliminate {l : Launch} {D : va_G} {ca : Nat → ClassId} {tp : Nat} {am : Nat → Nat} {M_clauses : Int32} {M_given : Int32} {M_end : Int32} {M_taped : Int32} {M_size : Int32} {M_at : Int32} {M_to : Int32} {M_sort : Int32} {M_worth : Int32} {M_faultKind : Int32} {M_faultPlace : Int32} {M_isTold : Int32} {M_nodes : Int32} {M_plain : Nat → Int32} {M_minus : Nat → Int32} {M_block : Nat → Int32} {M_left : Nat → Int32} {M_right : Nat → Int32} {M_pivot : Nat → Int32} {M_live : Nat → Int32} {M_needed : Nat → Int32} {M_label : Nat → Int32} {M_tape : Nat → Int32} {M_of : Nat → Int64} {M_kept : Nat → Int64} {M_had : Nat → Int32} {M_told : Nat → Int64} {M_first : Nat → Int64} {M_second : Nat → Int64} {M_node : Nat → Int64} {M_nodeVariable : Nat → Int32} {M_nodeLow : Nat → Int32} {M_nodeHigh : Nat → Int32} {M_wait : Nat → Int32} {x1 : Int32} {k : Int32 → Int32 → Int32 → Int32 → (Nat → Int32) → (Nat → Int32) → (Nat → Int32) → (Nat → Int32) → (Nat → Int32) → (Nat → Int32) → (Nat → Int32) → (Nat → Int32) → Prop} (h : p_M_eliminate M_clauses M_given M_end M_plain M_minus M_block M_left M_right M_pivot M_live M_needed x1 k) :
    MTi l y_M_eliminate b_M_eliminate 9 (some .int) rm_M_eliminate D ca tp [.ref (am 0), .int x1] (WM am ca M_clauses M_given M_end M_taped M_size M_at M_to M_sort M_worth M_faultKind M_faultPlace M_isTold M_nodes M_plain M_minus M_block M_left M_right M_pivot M_live M_needed M_label M_tape M_of M_kept M_had M_told M_first M_second M_node M_nodeVariable M_nodeLow M_nodeHigh M_wait)
      (fun r (u : Int32 × Int32 × Int32 × (Nat → Int32) × (Nat → Int32) × (Nat → Int32) × (Nat → Int32) × (Nat → Int32) × (Nat → Int32) × (Nat → Int32) × (Nat → Int32)) => k r u.1 u.2.1 u.2.2.1 u.2.2.2.1 u.2.2.2.2.1 u.2.2.2.2.2.1 u.2.2.2.2.2.2.1 u.2.2.2.2.2.2.2.1 u.2.2.2.2.2.2.2.2.1 u.2.2.2.2.2.2.2.2.2.1 u.2.2.2.2.2.2.2.2.2.2)
      (fun (u : Int32 × Int32 × Int32 × (Nat → Int32) × (Nat → Int32) × (Nat → Int32) × (Nat → Int32) × (Nat → Int32) × (Nat → Int32) × (Nat → Int32) × (Nat → Int32)) => WM am ca u.1 u.2.1 u.2.2.1 M_taped M_size M_at M_to M_sort M_worth M_faultKind M_faultPlace M_isTold M_nodes u.2.2.2.1 u.2.2.2.2.1 u.2.2.2.2.2.1 u.2.2.2.2.2.2.1 u.2.2.2.2.2.2.2.1 u.2.2.2.2.2.2.2.2.1 u.2.2.2.2.2.2.2.2.2.1 u.2.2.2.2.2.2.2.2.2.2 M_label M_tape M_of M_kept M_had M_told M_first M_second M_node M_nodeVariable M_nodeLow M_nodeHigh M_wait) 0 0 := by
  refine x_entryi (own := R_M) (nm := "eliminate") (by decide) rfl rfl (Nat.le_of_ble_eq_true rfl) (fun p e s m below meth c A ls C0 hw hl => ?_)
  have hx := C0.1
  have hb := C0.2.1
  have hl : lv_has ls 9 [(0, .ref (am 0)), (1, .int x1)] := hl
  unfold p_M_eliminate at h
  refine lv_iload_n hx hb d_M_eliminate_0 rfl (lv_at hl 1 rfl) ?_
  refine lv_iconst (v := 1) hx hb d_M_eliminate_1 (by decide) ?_
  refine lv_bipush (v := 10) hx hb d_M_eliminate_2 (by decide) ?_
  refine x_callSi C0 hw hl (c_M_in h) g_M_in wm_891 wm_892 (As := [.int x1, .int (1 : Int32), .int (10 : Int32)]) (rest := []) rfl rfl (Nat.le_of_ble_eq_true rfl) ⟨rfl, rfl⟩ ⟨Nat.le_of_ble_eq_true rfl, Nat.le_of_ble_eq_true rfl⟩ ⟨Nat.le_of_ble_eq_true rfl, Nat.le_of_ble_eq_true rfl⟩ d_M_eliminate_4 (fun r_1 u H locs h hw => ?_)
  refine lv_if_ne (tgt := 13) hx hb d_M_eliminate_7 (by decide) (fun c_2 => ?_) (fun c_2 => ?_)
  · have h := h.1 c_2
    refine lv_iconst (v := 1) hx hb d_M_eliminate_13 (by decide) ?_
    refine lv_iload_n hx hb d_M_eliminate_14 rfl (lv_at hl 1 rfl) ?_
    refine lv_iconst (v := 1) hx hb d_M_eliminate_15 (by decide) ?_
    refine lv_isub hx hb d_M_eliminate_16 ?_
    refine lv_ishl hx hb d_M_eliminate_17 ?_
    refine lv_istore_n (lv' := [(2, .int ((1 : Int32) <<< ((x1 - (1 : Int32)) &&& 31))), (0, .ref (am 0)), (1, .int x1)]) hx hb d_M_eliminate_18 rfl hl (by decide) rfl (fun ls hl => ?_)
    refine lv_aload_n hx hb d_M_eliminate_19 rfl (lv_at hl 1 rfl) ?_
    refine x_get C0 hw 0 rfl rfl i_M 8 (by decide) wm_733 rfl rfl d_M_eliminate_20 ?_
    refine lv_istore_n (lv' := [(3, .int M_clauses), (2, .int ((1 : Int32) <<< ((x1 - (1 : Int32)) &&& 31))), (0, .ref (am 0)), (1, .int x1)]) hx hb d_M_eliminate_23 rfl hl (by decide) rfl (fun ls hl => ?_)
    refine lv_iconst (v := 1) hx hb d_M_eliminate_24 (by decide) ?_
    refine lv_istore (lv' := [(4, .int (1 : Int32)), (3, .int M_clauses), (2, .int ((1 : Int32) <<< ((x1 - (1 : Int32)) &&& 31))), (0, .ref (am 0)), (1, .int x1)]) hx hb d_M_eliminate_25 hl (by decide) rfl (fun ls hl => ?_)
    refine lv_iconst (v := 1) hx hb d_M_eliminate_27 (by decide) ?_
    refine lv_istore (lv' := [(5, .int (1 : Int32)), (4, .int (1 : Int32)), (3, .int M_clauses), (2, .int ((1 : Int32) <<< ((x1 - (1 : Int32)) &&& 31))), (0, .ref (am 0)), (1, .int x1)]) hx hb d_M_eliminate_28 hl (by decide) rfl (fun ls hl => ?_)
    obtain ⟨j_71, h⟩ := h
    refine b_M_eliminate_L30 C0 _ _ _ _ _ _ _ _ _ _ _ _ h hw (lv_sub hl [4, 5, 3, 2, 1, 0] rfl) (fun x4_53 M_clauses_54 M_given_55 M_plain_56 M_minus_57 M_block_58 M_left_59 M_right_60 M_pivot_61 M_live_62 H locs ls h hw hl => ?_)
    refine b_M_eliminate_J217 C0 _ _ _ _ _ _ _ _ _ _ _ _ _ _ h hw (lv_sub hl [0, 1, 2, 3] rfl)
  · have h := h.2 c_2
    refine lv_bipush (v := -2) hx hb d_M_eliminate_10 (by decide) ?_
    exact x_iret C0 hw (M_clauses, M_given, M_end, M_plain, M_minus, M_block, M_left, M_right, M_pivot, M_live, M_needed) h rfl d_M_eliminate_12
theorem g_M_label : GY y_M_label b_M_label 4 (some .int) 2 := ⟨wm_909, wm_62, by decide +kernel, by decide +kernel, by decide +kernel⟩
def p_M_label (M_label : Nat → Int32) (x1 : Int32) (x2 : Int32) (k : Int32 → (Nat → Int32) → Prop) : Prop :=
  (p_M_in x1 (1 : Int32) (10 : Int32) (fun (r_1 : Int32) => ((r_1 = 0 → (k (-2 : Int32) M_label)) ∧ (¬ r_1 = 0 → (p_M_in x2 (1 : Int32) (3 : Int32) (fun (r_3 : Int32) => ((¬ r_3 = 0 → (vp_in x1 11 ∧ ((¬ (M_label x1.toNatClampNeg) = 0 → (k (M_label x1.toNatClampNeg) (upd M_label x1.toNatClampNeg x2))) ∧ ((M_label x1.toNatClampNeg) = 0 → (k (2 : Int32) (upd M_label x1.toNatClampNeg x2)))))) ∧ (r_3 = 0 → (k (-2 : Int32) M_label)))))))))
abbrev rm_M_label : Room := { frames := 1, cells := 0, slots := 0, locals := 22 }
set_option maxHeartbeats 4000000 in
set_option maxRecDepth 100000 in
theorem c_M_label {l : Launch} {D : va_G} {ca : Nat → ClassId} {tp : Nat} {am : Nat → Nat} {M_clauses : Int32} {M_given : Int32} {M_end : Int32} {M_taped : Int32} {M_size : Int32} {M_at : Int32} {M_to : Int32} {M_sort : Int32} {M_worth : Int32} {M_faultKind : Int32} {M_faultPlace : Int32} {M_isTold : Int32} {M_nodes : Int32} {M_plain : Nat → Int32} {M_minus : Nat → Int32} {M_block : Nat → Int32} {M_left : Nat → Int32} {M_right : Nat → Int32} {M_pivot : Nat → Int32} {M_live : Nat → Int32} {M_needed : Nat → Int32} {M_label : Nat → Int32} {M_tape : Nat → Int32} {M_of : Nat → Int64} {M_kept : Nat → Int64} {M_had : Nat → Int32} {M_told : Nat → Int64} {M_first : Nat → Int64} {M_second : Nat → Int64} {M_node : Nat → Int64} {M_nodeVariable : Nat → Int32} {M_nodeLow : Nat → Int32} {M_nodeHigh : Nat → Int32} {M_wait : Nat → Int32} {x1 : Int32} {x2 : Int32} {k : Int32 → (Nat → Int32) → Prop} (h : p_M_label M_label x1 x2 k) :
    MTi l y_M_label b_M_label 4 (some .int) rm_M_label D ca tp [.ref (am 0), .int x1, .int x2] (WM am ca M_clauses M_given M_end M_taped M_size M_at M_to M_sort M_worth M_faultKind M_faultPlace M_isTold M_nodes M_plain M_minus M_block M_left M_right M_pivot M_live M_needed M_label M_tape M_of M_kept M_had M_told M_first M_second M_node M_nodeVariable M_nodeLow M_nodeHigh M_wait)
      (fun r (u : (Nat → Int32)) => k r u)
      (fun (u : (Nat → Int32)) => WM am ca M_clauses M_given M_end M_taped M_size M_at M_to M_sort M_worth M_faultKind M_faultPlace M_isTold M_nodes M_plain M_minus M_block M_left M_right M_pivot M_live M_needed u M_tape M_of M_kept M_had M_told M_first M_second M_node M_nodeVariable M_nodeLow M_nodeHigh M_wait) 0 0 := by
  refine x_entryi (own := R_M) (nm := "label") (by decide) rfl rfl (Nat.le_of_ble_eq_true rfl) (fun p e s m below meth c A ls C0 hw hl => ?_)
  have hx := C0.1
  have hb := C0.2.1
  have hl : lv_has ls 4 [(0, .ref (am 0)), (1, .int x1), (2, .int x2)] := hl
  unfold p_M_label at h
  refine lv_iload_n hx hb d_M_label_0 rfl (lv_at hl 1 rfl) ?_
  refine lv_iconst (v := 1) hx hb d_M_label_1 (by decide) ?_
  refine lv_bipush (v := 10) hx hb d_M_label_2 (by decide) ?_
  refine x_callSi C0 hw hl (c_M_in h) g_M_in wm_891 wm_892 (As := [.int x1, .int (1 : Int32), .int (10 : Int32)]) (rest := []) rfl rfl (Nat.le_of_ble_eq_true rfl) ⟨rfl, rfl⟩ ⟨Nat.le_of_ble_eq_true rfl, Nat.le_of_ble_eq_true rfl⟩ ⟨Nat.le_of_ble_eq_true rfl, Nat.le_of_ble_eq_true rfl⟩ d_M_label_4 (fun r_1 u H locs h hw => ?_)
  refine lv_if_eq (tgt := 19) hx hb d_M_label_7 (by decide) (fun c_2 => ?_) (fun c_2 => ?_)
  · have h := h.1 c_2
    refine lv_bipush (v := -2) hx hb d_M_label_19 (by decide) ?_
    exact x_iret C0 hw M_label h rfl d_M_label_21
  · have h := h.2 c_2
    refine lv_iload_n hx hb d_M_label_10 rfl (lv_at hl 2 rfl) ?_
    refine lv_iconst (v := 1) hx hb d_M_label_11 (by decide) ?_
    refine lv_iconst (v := 3) hx hb d_M_label_12 (by decide) ?_
    refine x_callSi C0 hw hl (c_M_in h) g_M_in wm_891 wm_892 (As := [.int x2, .int (1 : Int32), .int (3 : Int32)]) (rest := []) rfl rfl (Nat.le_of_ble_eq_true rfl) ⟨rfl, rfl⟩ ⟨Nat.le_of_ble_eq_true rfl, Nat.le_of_ble_eq_true rfl⟩ ⟨Nat.le_of_ble_eq_true rfl, Nat.le_of_ble_eq_true rfl⟩ d_M_label_13 (fun r_3 u H locs h hw => ?_)
    refine lv_if_ne (tgt := 22) hx hb d_M_label_16 (by decide) (fun c_4 => ?_) (fun c_4 => ?_)
    · have h := h.1 c_4
      refine lv_aload_n hx hb d_M_label_22 rfl (lv_at hl 0 rfl) ?_
      refine x_get C0 hw 0 rfl rfl i_M 11 (by decide) wm_736 rfl rfl d_M_label_23 ?_
      refine lv_iload_n hx hb d_M_label_26 rfl (lv_at hl 1 rfl) ?_
      obtain ⟨hi_5, h⟩ := h
      refine x_iald C0 hw 9 rfl hi_5 d_M_label_27 ?_
      refine lv_if_ne (tgt := 35) hx hb d_M_label_28 (by decide) (fun c_6 => ?_) (fun c_6 => ?_)
      · have h := h.1 c_6
        refine lv_aload_n hx hb d_M_label_35 rfl (lv_at hl 0 rfl) ?_
        refine x_get C0 hw 0 rfl rfl i_M 11 (by decide) wm_736 rfl rfl d_M_label_36 ?_
        refine lv_iload_n hx hb d_M_label_39 rfl (lv_at hl 1 rfl) ?_
        refine x_iald C0 hw 9 rfl hi_5 d_M_label_40 ?_
        refine lv_istore_n (lv' := [(3, .int (M_label x1.toNatClampNeg)), (0, .ref (am 0)), (1, .int x1), (2, .int x2)]) hx hb d_M_label_41 rfl hl (by decide) rfl (fun ls hl => ?_)
        refine lv_aload_n hx hb d_M_label_42 rfl (lv_at hl 1 rfl) ?_
        refine x_get C0 hw 0 rfl rfl i_M 11 (by decide) wm_736 rfl rfl d_M_label_43 ?_
        refine lv_iload_n hx hb d_M_label_46 rfl (lv_at hl 2 rfl) ?_
        refine lv_iload_n hx hb d_M_label_47 rfl (lv_at hl 3 rfl) ?_
        refine x_iast C0 hw 9 rfl hi_5 (ws' := WM am ca M_clauses M_given M_end M_taped M_size M_at M_to M_sort M_worth M_faultKind M_faultPlace M_isTold M_nodes M_plain M_minus M_block M_left M_right M_pivot M_live M_needed (upd M_label x1.toNatClampNeg x2) M_tape M_of M_kept M_had M_told M_first M_second M_node M_nodeVariable M_nodeLow M_nodeHigh M_wait) rfl d_M_label_48 (fun H locs hw => ?_)
        refine lv_iload_n hx hb d_M_label_49 rfl (lv_at hl 0 rfl) ?_
        exact x_iret C0 hw (upd M_label x1.toNatClampNeg x2) h rfl d_M_label_50
      · have h := h.2 c_6
        refine lv_iconst (v := 2) hx hb d_M_label_31 (by decide) ?_
        refine lv_goto (tgt := 41) hx hb d_M_label_32 (by decide) ?_
        refine lv_istore_n (lv' := [(3, .int (2 : Int32)), (0, .ref (am 0)), (1, .int x1), (2, .int x2)]) hx hb d_M_label_41 rfl hl (by decide) rfl (fun ls hl => ?_)
        refine lv_aload_n hx hb d_M_label_42 rfl (lv_at hl 1 rfl) ?_
        refine x_get C0 hw 0 rfl rfl i_M 11 (by decide) wm_736 rfl rfl d_M_label_43 ?_
        refine lv_iload_n hx hb d_M_label_46 rfl (lv_at hl 2 rfl) ?_
        refine lv_iload_n hx hb d_M_label_47 rfl (lv_at hl 3 rfl) ?_
        refine x_iast C0 hw 9 rfl hi_5 (ws' := WM am ca M_clauses M_given M_end M_taped M_size M_at M_to M_sort M_worth M_faultKind M_faultPlace M_isTold M_nodes M_plain M_minus M_block M_left M_right M_pivot M_live M_needed (upd M_label x1.toNatClampNeg x2) M_tape M_of M_kept M_had M_told M_first M_second M_node M_nodeVariable M_nodeLow M_nodeHigh M_wait) rfl d_M_label_48 (fun H locs hw => ?_)
        refine lv_iload_n hx hb d_M_label_49 rfl (lv_at hl 0 rfl) ?_
        exact x_iret C0 hw (upd M_label x1.toNatClampNeg x2) h rfl d_M_label_50
    · have h := h.2 c_4
      refine lv_bipush (v := -2) hx hb d_M_label_19 (by decide) ?_
      exact x_iret C0 hw M_label h rfl d_M_label_21
theorem g_M_variablesOf : GY y_M_variablesOf b_M_variablesOf 5 (some .int) 2 := ⟨wm_917, wm_62, by decide +kernel, by decide +kernel, by decide +kernel⟩
def p_M_variablesOf_J40 (M_plain : Nat → Int32) (M_minus : Nat → Int32) (k5 : Int32 → Int32 → Prop) (x1 : Int32) (x2 : Int32) (x3 : Int32) (x4 : Int32) (t0 : Int32) : Prop :=
  ((¬ t0 = x1 → (k5 x3 (x4 + 1))) ∧ (t0 = x1 → (vp_in x4 202 ∧ (∀ v3_7 : Int32, v3_7 = (x3 ||| ((M_plain x4.toNatClampNeg) ||| (M_minus x4.toNatClampNeg))) → (k5 v3_7 (x4 + 1))))))
def p_M_variablesOf_L5 (M_clauses : Int32) (M_plain : Nat → Int32) (M_minus : Nat → Int32) (M_block : Nat → Int32) (x1 : Int32) (x2 : Int32) (k : Int32 → Prop) : Nat → Int32 → Int32 → Prop
  | 0, _, _ => False
  | n + 1, x3, x4 =>
    ((M_clauses < x4 → (k x3)) ∧ (¬ M_clauses < x4 → (vp_in x4 202 ∧ (((M_block x4.toNatClampNeg) ≤ 0 → (p_M_variablesOf_L5 M_clauses M_plain M_minus M_block x1 x2 k n x3 (x4 + 1))) ∧ (¬ (M_block x4.toNatClampNeg) ≤ 0 → (((M_block x4.toNatClampNeg) ≤ x2 → (p_M_variablesOf_J40 M_plain M_minus (p_M_variablesOf_L5 M_clauses M_plain M_minus M_block x1 x2 k n) x1 x2 x3 x4 (0 : Int32))) ∧ (¬ (M_block x4.toNatClampNeg) ≤ x2 → (p_M_variablesOf_J40 M_plain M_minus (p_M_variablesOf_L5 M_clauses M_plain M_minus M_block x1 x2 k n) x1 x2 x3 x4 (1 : Int32)))))))))
def p_M_variablesOf (M_clauses : Int32) (M_plain : Nat → Int32) (M_minus : Nat → Int32) (M_block : Nat → Int32) (x1 : Int32) (x2 : Int32) (k : Int32 → Prop) : Prop :=
  (∃ j_8, p_M_variablesOf_L5 M_clauses M_plain M_minus M_block x1 x2 k j_8 (0 : Int32) (1 : Int32))
abbrev rm_M_variablesOf : Room := { frames := 0, cells := 0, slots := 0, locals := 0 }
set_option maxHeartbeats 4000000 in
set_option maxRecDepth 100000 in
theorem b_M_variablesOf_J40 {p : Program} {l : Launch} {e : Env} {s : State} {m : MethodId} {args : Array Value} {below : List Frame} {meth : Method} {c : Code} {D : va_G} {ca : Nat → ClassId} {tp : Nat} {A : Nat → Prop} {am : Nat → Nat} {M_clauses : Int32} {M_given : Int32} {M_end : Int32} {M_taped : Int32} {M_size : Int32} {M_at : Int32} {M_to : Int32} {M_sort : Int32} {M_worth : Int32} {M_faultKind : Int32} {M_faultPlace : Int32} {M_isTold : Int32} {M_nodes : Int32} {M_plain : Nat → Int32} {M_minus : Nat → Int32} {M_block : Nat → Int32} {M_left : Nat → Int32} {M_right : Nat → Int32} {M_pivot : Nat → Int32} {M_live : Nat → Int32} {M_needed : Nat → Int32} {M_label : Nat → Int32} {M_tape : Nat → Int32} {M_of : Nat → Int64} {M_kept : Nat → Int64} {M_had : Nat → Int32} {M_told : Nat → Int64} {M_first : Nat → Int64} {M_second : Nat → Int64} {M_node : Nat → Int64} {M_nodeVariable : Nat → Int32} {M_nodeLow : Nat → Int32} {M_nodeHigh : Nat → Int32} {M_wait : Nat → Int32}  {k : Int32 → Prop} {k5 : Int32 → Int32 → Prop} (C0 : CX p s m args meth c b_M_variablesOf 5 (some .int) R_M "variablesOf" D ca tp A) :
    ∀ (x1 : Int32) (x2 : Int32) (x3 : Int32) (x4 : Int32) (t0 : Int32) {H : Heap} {locs : List Loc} {ls : Array Slot}, p_M_variablesOf_J40 M_plain M_minus k5 x1 x2 x3 x4 t0 → WH D A s (WM am ca M_clauses M_given M_end M_taped M_size M_at M_to M_sort M_worth M_faultKind M_faultPlace M_isTold M_nodes M_plain M_minus M_block M_left M_right M_pivot M_live M_needed M_label M_tape M_of M_kept M_had M_told M_first M_second M_node M_nodeVariable M_nodeLow M_nodeHigh M_wait) H locs → lv_has ls 5 [(0, .ref (am 0)), (1, .int x1), (2, .int x2), (3, .int x3), (4, .int x4)] →
      (∀ (x3 : Int32) (x4 : Int32) (H : Heap) (locs : List Loc) (ls : Array Slot), k5 x3 x4 → WH D A s (WM am ca M_clauses M_given M_end M_taped M_size M_at M_to M_sort M_worth M_faultKind M_faultPlace M_isTold M_nodes M_plain M_minus M_block M_left M_right M_pivot M_live M_needed M_label M_tape M_of M_kept M_had M_told M_first M_second M_node M_nodeVariable M_nodeLow M_nodeHigh M_wait) H locs → lv_has ls 5 [(0, .ref (am 0)), (1, .int x1), (2, .int x2), (3, .int x3), (4, .int x4)] → W p l e rm_M_variablesOf s m args below meth c H locs 0 0 (QI D A below args s (fun r (_ : Unit) => k r) (fun (_ : Unit) => WM am ca M_clauses M_given M_end M_taped M_size M_at M_to M_sort M_worth M_faultKind M_faultPlace M_isTold M_nodes M_plain M_minus M_block M_left M_right M_pivot M_live M_needed M_label M_tape M_of M_kept M_had M_told M_first M_second M_node M_nodeVariable M_nodeLow M_nodeHigh M_wait) 0 0) (F0 m 5 ls [])) →
      W p l e rm_M_variablesOf s m args below meth c H locs 0 0 (QI D A below args s (fun r (_ : Unit) => k r) (fun (_ : Unit) => WM am ca M_clauses M_given M_end M_taped M_size M_at M_to M_sort M_worth M_faultKind M_faultPlace M_isTold M_nodes M_plain M_minus M_block M_left M_right M_pivot M_live M_needed M_label M_tape M_of M_kept M_had M_told M_first M_second M_node M_nodeVariable M_nodeLow M_nodeHigh M_wait) 0 0) (F0 m 40 ls [.int t0]) := by
  have hx := C0.1
  have hb := C0.2.1
  intro x1 x2 x3 x4 t0 H locs ls h hw hl h5
  unfold p_M_variablesOf_J40 at h
  refine lv_iload_n hx hb d_M_variablesOf_40 rfl (lv_at hl 1 rfl) ?_
  refine lv_icmp_ne (tgt := 62) hx hb d_M_variablesOf_41 (by decide) (fun c_5 => ?_) (fun c_5 => ?_)
  · have h := h.1 c_5
    refine lv_iinc (v := (x4 + 1)) (lv' := [(4, .int (x4 + 1)), (0, .ref (am 0)), (1, .int x1), (2, .int x2), (3, .int x3)]) hx hb d_M_variablesOf_62 hl (k := 4) rfl rfl (by decide) rfl (fun ls hl => ?_)
    refine lv_goto (tgt := 5) hx hb d_M_variablesOf_65 (by decide) ?_
    exact h5 _ _ _ _ _ h hw (lv_sub hl [1, 2, 3, 4, 0] rfl)
  · have h := h.2 c_5
    refine lv_iload_n hx hb d_M_variablesOf_44 rfl (lv_at hl 3 rfl) ?_
    refine lv_aload_n hx hb d_M_variablesOf_45 rfl (lv_at hl 0 rfl) ?_
    refine x_get C0 hw 0 rfl rfl i_M 0 (by decide) wm_725 rfl rfl d_M_variablesOf_46 ?_
    refine lv_iload hx hb d_M_variablesOf_49 (lv_at hl 4 rfl) ?_
    obtain ⟨hi_6, h⟩ := h
    refine x_iald C0 hw 1 rfl hi_6 d_M_variablesOf_51 ?_
    refine lv_aload_n hx hb d_M_variablesOf_52 rfl (lv_at hl 0 rfl) ?_
    refine x_get C0 hw 0 rfl rfl i_M 1 (by decide) wm_726 rfl rfl d_M_variablesOf_53 ?_
    refine lv_iload hx hb d_M_variablesOf_56 (lv_at hl 4 rfl) ?_
    refine x_iald C0 hw 2 rfl hi_6 d_M_variablesOf_58 ?_
    refine lv_ior hx hb d_M_variablesOf_59 ?_
    refine lv_ior hx hb d_M_variablesOf_60 ?_
    refine lv_topi (fun v3_7 e_v3_7 => ?_)
    have h := h v3_7 e_v3_7
    refine lv_istore_n (lv' := [(3, .int v3_7), (0, .ref (am 0)), (1, .int x1), (2, .int x2), (4, .int x4)]) hx hb d_M_variablesOf_61 rfl hl (by decide) rfl (fun ls hl => ?_)
    refine lv_iinc (v := (x4 + 1)) (lv' := [(4, .int (x4 + 1)), (3, .int v3_7), (0, .ref (am 0)), (1, .int x1), (2, .int x2)]) hx hb d_M_variablesOf_62 hl (k := 4) rfl rfl (by decide) rfl (fun ls hl => ?_)
    refine lv_goto (tgt := 5) hx hb d_M_variablesOf_65 (by decide) ?_
    exact h5 _ _ _ _ _ h hw (lv_sub hl [2, 3, 4, 1, 0] rfl)
set_option maxHeartbeats 4000000 in
set_option maxRecDepth 100000 in
theorem b_M_variablesOf_L5 {p : Program} {l : Launch} {e : Env} {s : State} {m : MethodId} {args : Array Value} {below : List Frame} {meth : Method} {c : Code} {D : va_G} {ca : Nat → ClassId} {tp : Nat} {A : Nat → Prop} {am : Nat → Nat} {M_clauses : Int32} {M_given : Int32} {M_end : Int32} {M_taped : Int32} {M_size : Int32} {M_at : Int32} {M_to : Int32} {M_sort : Int32} {M_worth : Int32} {M_faultKind : Int32} {M_faultPlace : Int32} {M_isTold : Int32} {M_nodes : Int32} {M_plain : Nat → Int32} {M_minus : Nat → Int32} {M_block : Nat → Int32} {M_left : Nat → Int32} {M_right : Nat → Int32} {M_pivot : Nat → Int32} {M_live : Nat → Int32} {M_needed : Nat → Int32} {M_label : Nat → Int32} {M_tape : Nat → Int32} {M_of : Nat → Int64} {M_kept : Nat → Int64} {M_had : Nat → Int32} {M_told : Nat → Int64} {M_first : Nat → Int64} {M_second : Nat → Int64} {M_node : Nat → Int64} {M_nodeVariable : Nat → Int32} {M_nodeLow : Nat → Int32} {M_nodeHigh : Nat → Int32} {M_wait : Nat → Int32} {x1 : Int32} {x2 : Int32} {k : Int32 → Prop}  (C0 : CX p s m args meth c b_M_variablesOf 5 (some .int) R_M "variablesOf" D ca tp A) :
    ∀ (n : Nat) (x3 : Int32) (x4 : Int32) {H : Heap} {locs : List Loc} {ls : Array Slot}, p_M_variablesOf_L5 M_clauses M_plain M_minus M_block x1 x2 k n x3 x4 → WH D A s (WM am ca M_clauses M_given M_end M_taped M_size M_at M_to M_sort M_worth M_faultKind M_faultPlace M_isTold M_nodes M_plain M_minus M_block M_left M_right M_pivot M_live M_needed M_label M_tape M_of M_kept M_had M_told M_first M_second M_node M_nodeVariable M_nodeLow M_nodeHigh M_wait) H locs → lv_has ls 5 [(0, .ref (am 0)), (1, .int x1), (2, .int x2), (3, .int x3), (4, .int x4)] →
      W p l e rm_M_variablesOf s m args below meth c H locs 0 0 (QI D A below args s (fun r (_ : Unit) => k r) (fun (_ : Unit) => WM am ca M_clauses M_given M_end M_taped M_size M_at M_to M_sort M_worth M_faultKind M_faultPlace M_isTold M_nodes M_plain M_minus M_block M_left M_right M_pivot M_live M_needed M_label M_tape M_of M_kept M_had M_told M_first M_second M_node M_nodeVariable M_nodeLow M_nodeHigh M_wait) 0 0) (F0 m 5 ls []) := by
  have hx := C0.1
  have hb := C0.2.1
  intro n
  induction n with
  | zero =>
    intro x3 x4 H locs ls h
    exact False.elim h
  | succ n ih =>
    intro x3 x4 H locs ls h hw hl
    unfold p_M_variablesOf_L5 at h
    refine lv_iload hx hb d_M_variablesOf_5 (lv_at hl 4 rfl) ?_
    refine lv_aload_n hx hb d_M_variablesOf_7 rfl (lv_at hl 0 rfl) ?_
    refine x_get C0 hw 0 rfl rfl i_M 8 (by decide) wm_733 rfl rfl d_M_variablesOf_8 ?_
    refine lv_icmp_gt (tgt := 68) hx hb d_M_variablesOf_11 (by decide) (fun c_1 => ?_) (fun c_1 => ?_)
    · have h := h.1 c_1
      refine lv_iload_n hx hb d_M_variablesOf_68 rfl (lv_at hl 3 rfl) ?_
      exact x_iret C0 hw () h rfl d_M_variablesOf_69
    · have h := h.2 c_1
      refine lv_aload_n hx hb d_M_variablesOf_14 rfl (lv_at hl 0 rfl) ?_
      refine x_get C0 hw 0 rfl rfl i_M 2 (by decide) wm_727 rfl rfl d_M_variablesOf_15 ?_
      refine lv_iload hx hb d_M_variablesOf_18 (lv_at hl 4 rfl) ?_
      obtain ⟨hi_2, h⟩ := h
      refine x_iald C0 hw 3 rfl hi_2 d_M_variablesOf_20 ?_
      refine lv_if_le (tgt := 62) hx hb d_M_variablesOf_21 (by decide) (fun c_3 => ?_) (fun c_3 => ?_)
      · have h := h.1 c_3
        refine lv_iinc (v := (x4 + 1)) (lv' := [(4, .int (x4 + 1)), (0, .ref (am 0)), (1, .int x1), (2, .int x2), (3, .int x3)]) hx hb d_M_variablesOf_62 hl (k := 4) rfl rfl (by decide) rfl (fun ls hl => ?_)
        refine lv_goto (tgt := 5) hx hb d_M_variablesOf_65 (by decide) ?_
        exact ih _ _ h hw (lv_sub hl [1, 2, 3, 4, 0] rfl)
      · have h := h.2 c_3
        refine lv_aload_n hx hb d_M_variablesOf_24 rfl (lv_at hl 0 rfl) ?_
        refine x_get C0 hw 0 rfl rfl i_M 2 (by decide) wm_727 rfl rfl d_M_variablesOf_25 ?_
        refine lv_iload hx hb d_M_variablesOf_28 (lv_at hl 4 rfl) ?_
        refine x_iald C0 hw 3 rfl hi_2 d_M_variablesOf_30 ?_
        refine lv_iload_n hx hb d_M_variablesOf_31 rfl (lv_at hl 2 rfl) ?_
        refine lv_icmp_le (tgt := 39) hx hb d_M_variablesOf_32 (by decide) (fun c_4 => ?_) (fun c_4 => ?_)
        · have h := h.1 c_4
          refine lv_iconst (v := 0) hx hb d_M_variablesOf_39 (by decide) ?_
          refine b_M_variablesOf_J40 C0 _ _ _ _ _ h hw (lv_sub hl [0, 1, 2, 3, 4] rfl) (fun _ _ H locs ls h hw hl => ih _ _ h hw hl)
        · have h := h.2 c_4
          refine lv_iconst (v := 1) hx hb d_M_variablesOf_35 (by decide) ?_
          refine lv_goto (tgt := 40) hx hb d_M_variablesOf_36 (by decide) ?_
          refine b_M_variablesOf_J40 C0 _ _ _ _ _ h hw (lv_sub hl [0, 1, 2, 3, 4] rfl) (fun _ _ H locs ls h hw hl => ih _ _ h hw hl)
set_option maxHeartbeats 4000000 in
set_option maxRecDepth 100000 in
theorem c_M_variablesOf {l : Launch} {D : va_G} {ca : Nat → ClassId} {tp : Nat} {am : Nat → Nat} {M_clauses : Int32} {M_given : Int32} {M_end : Int32} {M_taped : Int32} {M_size : Int32} {M_at : Int32} {M_to : Int32} {M_sort : Int32} {M_worth : Int32} {M_faultKind : Int32} {M_faultPlace : Int32} {M_isTold : Int32} {M_nodes : Int32} {M_plain : Nat → Int32} {M_minus : Nat → Int32} {M_block : Nat → Int32} {M_left : Nat → Int32} {M_right : Nat → Int32} {M_pivot : Nat → Int32} {M_live : Nat → Int32} {M_needed : Nat → Int32} {M_label : Nat → Int32} {M_tape : Nat → Int32} {M_of : Nat → Int64} {M_kept : Nat → Int64} {M_had : Nat → Int32} {M_told : Nat → Int64} {M_first : Nat → Int64} {M_second : Nat → Int64} {M_node : Nat → Int64} {M_nodeVariable : Nat → Int32} {M_nodeLow : Nat → Int32} {M_nodeHigh : Nat → Int32} {M_wait : Nat → Int32} {x1 : Int32} {x2 : Int32} {k : Int32 → Prop} (h : p_M_variablesOf M_clauses M_plain M_minus M_block x1 x2 k) :
    MTi l y_M_variablesOf b_M_variablesOf 5 (some .int) rm_M_variablesOf D ca tp [.ref (am 0), .int x1, .int x2] (WM am ca M_clauses M_given M_end M_taped M_size M_at M_to M_sort M_worth M_faultKind M_faultPlace M_isTold M_nodes M_plain M_minus M_block M_left M_right M_pivot M_live M_needed M_label M_tape M_of M_kept M_had M_told M_first M_second M_node M_nodeVariable M_nodeLow M_nodeHigh M_wait)
      (fun r (_ : Unit) => k r)
      (fun (_ : Unit) => WM am ca M_clauses M_given M_end M_taped M_size M_at M_to M_sort M_worth M_faultKind M_faultPlace M_isTold M_nodes M_plain M_minus M_block M_left M_right M_pivot M_live M_needed M_label M_tape M_of M_kept M_had M_told M_first M_second M_node M_nodeVariable M_nodeLow M_nodeHigh M_wait) 0 0 := by
  refine x_entryi (own := R_M) (nm := "variablesOf") (by decide) rfl rfl (Nat.le_of_ble_eq_true rfl) (fun p e s m below meth c A ls C0 hw hl => ?_)
  have hx := C0.1
  have hb := C0.2.1
  have hl : lv_has ls 5 [(0, .ref (am 0)), (1, .int x1), (2, .int x2)] := hl
  unfold p_M_variablesOf at h
  refine lv_iconst (v := 0) hx hb d_M_variablesOf_0 (by decide) ?_
  refine lv_istore_n (lv' := [(3, .int (0 : Int32)), (0, .ref (am 0)), (1, .int x1), (2, .int x2)]) hx hb d_M_variablesOf_1 rfl hl (by decide) rfl (fun ls hl => ?_)
  refine lv_iconst (v := 1) hx hb d_M_variablesOf_2 (by decide) ?_
  refine lv_istore (lv' := [(4, .int (1 : Int32)), (3, .int (0 : Int32)), (0, .ref (am 0)), (1, .int x1), (2, .int x2)]) hx hb d_M_variablesOf_3 hl (by decide) rfl (fun ls hl => ?_)
  obtain ⟨j_8, h⟩ := h
  refine b_M_variablesOf_L5 C0 _ _ _ h hw (lv_sub hl [2, 3, 4, 1, 0] rfl)
theorem g_M_variables : GY y_M_variables b_M_variables 5 (some .int) 2 := ⟨wm_913, wm_62, by decide +kernel, by decide +kernel, by decide +kernel⟩
def p_M_variables (M_clauses : Int32) (M_plain : Nat → Int32) (M_minus : Nat → Int32) (M_block : Nat → Int32) (x1 : Int32) (x2 : Int32) (k : Int32 → Prop) : Prop :=
  (p_M_in x1 (1 : Int32) (7 : Int32) (fun (r_1 : Int32) => ((¬ r_1 = 0 → (p_M_variablesOf M_clauses M_plain M_minus M_block (0 : Int32) x1 (fun (r_3 : Int32) => (p_M_variablesOf M_clauses M_plain M_minus M_block (1 : Int32) x1 (fun (r_4 : Int32) => ((¬ x2 = 0 → ((¬ x2 = (1 : Int32) → ((¬ x2 = (2 : Int32) → (k (-1 : Int32))) ∧ (x2 = (2 : Int32) → (k (r_3 &&& r_4))))) ∧ (x2 = (1 : Int32) → (k r_4)))) ∧ (x2 = 0 → (k r_3)))))))) ∧ (r_1 = 0 → (k (-2 : Int32))))))
abbrev rm_M_variables : Room := { frames := 1, cells := 0, slots := 0, locals := 24 }
set_option maxHeartbeats 4000000 in
set_option maxRecDepth 100000 in
theorem c_M_variables {l : Launch} {D : va_G} {ca : Nat → ClassId} {tp : Nat} {am : Nat → Nat} {M_clauses : Int32} {M_given : Int32} {M_end : Int32} {M_taped : Int32} {M_size : Int32} {M_at : Int32} {M_to : Int32} {M_sort : Int32} {M_worth : Int32} {M_faultKind : Int32} {M_faultPlace : Int32} {M_isTold : Int32} {M_nodes : Int32} {M_plain : Nat → Int32} {M_minus : Nat → Int32} {M_block : Nat → Int32} {M_left : Nat → Int32} {M_right : Nat → Int32} {M_pivot : Nat → Int32} {M_live : Nat → Int32} {M_needed : Nat → Int32} {M_label : Nat → Int32} {M_tape : Nat → Int32} {M_of : Nat → Int64} {M_kept : Nat → Int64} {M_had : Nat → Int32} {M_told : Nat → Int64} {M_first : Nat → Int64} {M_second : Nat → Int64} {M_node : Nat → Int64} {M_nodeVariable : Nat → Int32} {M_nodeLow : Nat → Int32} {M_nodeHigh : Nat → Int32} {M_wait : Nat → Int32} {x1 : Int32} {x2 : Int32} {k : Int32 → Prop} (h : p_M_variables M_clauses M_plain M_minus M_block x1 x2 k) :
    MTi l y_M_variables b_M_variables 5 (some .int) rm_M_variables D ca tp [.ref (am 0), .int x1, .int x2] (WM am ca M_clauses M_given M_end M_taped M_size M_at M_to M_sort M_worth M_faultKind M_faultPlace M_isTold M_nodes M_plain M_minus M_block M_left M_right M_pivot M_live M_needed M_label M_tape M_of M_kept M_had M_told M_first M_second M_node M_nodeVariable M_nodeLow M_nodeHigh M_wait)
      (fun r (_ : Unit) => k r)
      (fun (_ : Unit) => WM am ca M_clauses M_given M_end M_taped M_size M_at M_to M_sort M_worth M_faultKind M_faultPlace M_isTold M_nodes M_plain M_minus M_block M_left M_right M_pivot M_live M_needed M_label M_tape M_of M_kept M_had M_told M_first M_second M_node M_nodeVariable M_nodeLow M_nodeHigh M_wait) 0 0 := by
  refine x_entryi (own := R_M) (nm := "variables") (by decide) rfl rfl (Nat.le_of_ble_eq_true rfl) (fun p e s m below meth c A ls C0 hw hl => ?_)
  have hx := C0.1
  have hb := C0.2.1
  have hl : lv_has ls 5 [(0, .ref (am 0)), (1, .int x1), (2, .int x2)] := hl
  unfold p_M_variables at h
  refine lv_iload_n hx hb d_M_variables_0 rfl (lv_at hl 1 rfl) ?_
  refine lv_iconst (v := 1) hx hb d_M_variables_1 (by decide) ?_
  refine lv_bipush (v := 7) hx hb d_M_variables_2 (by decide) ?_
  refine x_callSi C0 hw hl (c_M_in h) g_M_in wm_891 wm_892 (As := [.int x1, .int (1 : Int32), .int (7 : Int32)]) (rest := []) rfl rfl (Nat.le_of_ble_eq_true rfl) ⟨rfl, rfl⟩ ⟨Nat.le_of_ble_eq_true rfl, Nat.le_of_ble_eq_true rfl⟩ ⟨Nat.le_of_ble_eq_true rfl, Nat.le_of_ble_eq_true rfl⟩ d_M_variables_4 (fun r_1 u H locs h hw => ?_)
  refine lv_if_ne (tgt := 13) hx hb d_M_variables_7 (by decide) (fun c_2 => ?_) (fun c_2 => ?_)
  · have h := h.1 c_2
    refine lv_aload_n hx hb d_M_variables_13 rfl (lv_at hl 0 rfl) ?_
    refine lv_iconst (v := 0) hx hb d_M_variables_14 (by decide) ?_
    refine lv_iload_n hx hb d_M_variables_15 rfl (lv_at hl 1 rfl) ?_
    refine x_callVi C0 hw hl (c_M_variablesOf h) g_M_variablesOf wm_914 ⟨wm_43, wm_916⟩ 0 rfl rfl rfl (As := [.int (0 : Int32), .int x1]) (rest := []) rfl rfl (Nat.le_of_ble_eq_true rfl) ⟨rfl, rfl⟩ ⟨Nat.le_of_ble_eq_true rfl, Nat.le_of_ble_eq_true rfl⟩ ⟨Nat.le_of_ble_eq_true rfl, Nat.le_of_ble_eq_true rfl⟩ d_M_variables_16 (fun r_3 u H locs h hw => ?_)
    refine lv_istore_n (lv' := [(3, .int r_3), (0, .ref (am 0)), (1, .int x1), (2, .int x2)]) hx hb d_M_variables_19 rfl hl (by decide) rfl (fun ls hl => ?_)
    refine lv_aload_n hx hb d_M_variables_20 rfl (lv_at hl 1 rfl) ?_
    refine lv_iconst (v := 1) hx hb d_M_variables_21 (by decide) ?_
    refine lv_iload_n hx hb d_M_variables_22 rfl (lv_at hl 2 rfl) ?_
    refine x_callVi C0 hw hl (c_M_variablesOf h) g_M_variablesOf wm_914 ⟨wm_43, wm_916⟩ 0 rfl rfl rfl (As := [.int (1 : Int32), .int x1]) (rest := []) rfl rfl (Nat.le_of_ble_eq_true rfl) ⟨rfl, rfl⟩ ⟨Nat.le_of_ble_eq_true rfl, Nat.le_of_ble_eq_true rfl⟩ ⟨Nat.le_of_ble_eq_true rfl, Nat.le_of_ble_eq_true rfl⟩ d_M_variables_23 (fun r_4 u H locs h hw => ?_)
    refine lv_istore (lv' := [(4, .int r_4), (3, .int r_3), (0, .ref (am 0)), (1, .int x1), (2, .int x2)]) hx hb d_M_variables_26 hl (by decide) rfl (fun ls hl => ?_)
    refine lv_iload_n hx hb d_M_variables_28 rfl (lv_at hl 4 rfl) ?_
    refine lv_if_ne (tgt := 36) hx hb d_M_variables_29 (by decide) (fun c_5 => ?_) (fun c_5 => ?_)
    · have h := h.1 c_5
      refine lv_iload_n hx hb d_M_variables_36 rfl (lv_at hl 4 rfl) ?_
      refine lv_iconst (v := 1) hx hb d_M_variables_37 (by decide) ?_
      refine lv_icmp_ne (tgt := 46) hx hb d_M_variables_38 (by decide) (fun c_6 => ?_) (fun c_6 => ?_)
      · have h := h.1 c_6
        refine lv_iload_n hx hb d_M_variables_46 rfl (lv_at hl 4 rfl) ?_
        refine lv_iconst (v := 2) hx hb d_M_variables_47 (by decide) ?_
        refine lv_icmp_ne (tgt := 58) hx hb d_M_variables_48 (by decide) (fun c_7 => ?_) (fun c_7 => ?_)
        · have h := h.1 c_7
          refine lv_iconst (v := -1) hx hb d_M_variables_58 (by decide) ?_
          exact x_iret C0 hw () h rfl d_M_variables_59
        · have h := h.2 c_7
          refine lv_iload_n hx hb d_M_variables_51 rfl (lv_at hl 1 rfl) ?_
          refine lv_iload hx hb d_M_variables_52 (lv_at hl 0 rfl) ?_
          refine lv_iand hx hb d_M_variables_54 ?_
          refine lv_goto (tgt := 59) hx hb d_M_variables_55 (by decide) ?_
          exact x_iret C0 hw () h rfl d_M_variables_59
      · have h := h.2 c_6
        refine lv_iload hx hb d_M_variables_41 (lv_at hl 0 rfl) ?_
        refine lv_goto (tgt := 59) hx hb d_M_variables_43 (by decide) ?_
        exact x_iret C0 hw () h rfl d_M_variables_59
    · have h := h.2 c_5
      refine lv_iload_n hx hb d_M_variables_32 rfl (lv_at hl 1 rfl) ?_
      refine lv_goto (tgt := 59) hx hb d_M_variables_33 (by decide) ?_
      exact x_iret C0 hw () h rfl d_M_variables_59
  · have h := h.2 c_2
    refine lv_bipush (v := -2) hx hb d_M_variables_10 (by decide) ?_
    exact x_iret C0 hw () h rfl d_M_variables_12
theorem g_M_labelOf : GY y_M_labelOf b_M_labelOf 6 (some .int) 4 := ⟨wm_933, wm_62, by decide +kernel, by decide +kernel, by decide +kernel⟩
def p_M_labelOf (M_label : Nat → Int32) (x1 : Int32) (x2 : Int32) (x3 : Int32) (x4 : Int32) (k : Int32 → Prop) : Prop :=
  ((¬ (x3 &&& ((1 : Int32) <<< ((x1 - (1 : Int32)) &&& 31))) = 0 → ((¬ (x2 &&& ((1 : Int32) <<< ((x1 - (1 : Int32)) &&& 31))) = 0 → ((¬ x4 = 0 → ((¬ x4 = (1 : Int32) → ((¬ x4 = (2 : Int32) → (vp_in x1 11 ∧ ((¬ (M_label x1.toNatClampNeg) = 0 → (k (M_label x1.toNatClampNeg))) ∧ ((M_label x1.toNatClampNeg) = 0 → (k (2 : Int32)))))) ∧ (x4 = (2 : Int32) → (k (1 : Int32))))) ∧ (x4 = (1 : Int32) → (k (3 : Int32))))) ∧ (x4 = 0 → (k (2 : Int32))))) ∧ ((x2 &&& ((1 : Int32) <<< ((x1 - (1 : Int32)) &&& 31))) = 0 → (k (2 : Int32))))) ∧ ((x3 &&& ((1 : Int32) <<< ((x1 - (1 : Int32)) &&& 31))) = 0 → (k (1 : Int32))))
abbrev rm_M_labelOf : Room := { frames := 0, cells := 0, slots := 0, locals := 0 }
set_option maxHeartbeats 4000000 in
set_option maxRecDepth 100000 in
theorem c_M_labelOf {l : Launch} {D : va_G} {ca : Nat → ClassId} {tp : Nat} {am : Nat → Nat} {M_clauses : Int32} {M_given : Int32} {M_end : Int32} {M_taped : Int32} {M_size : Int32} {M_at : Int32} {M_to : Int32} {M_sort : Int32} {M_worth : Int32} {M_faultKind : Int32} {M_faultPlace : Int32} {M_isTold : Int32} {M_nodes : Int32} {M_plain : Nat → Int32} {M_minus : Nat → Int32} {M_block : Nat → Int32} {M_left : Nat → Int32} {M_right : Nat → Int32} {M_pivot : Nat → Int32} {M_live : Nat → Int32} {M_needed : Nat → Int32} {M_label : Nat → Int32} {M_tape : Nat → Int32} {M_of : Nat → Int64} {M_kept : Nat → Int64} {M_had : Nat → Int32} {M_told : Nat → Int64} {M_first : Nat → Int64} {M_second : Nat → Int64} {M_node : Nat → Int64} {M_nodeVariable : Nat → Int32} {M_nodeLow : Nat → Int32} {M_nodeHigh : Nat → Int32} {M_wait : Nat → Int32} {x1 : Int32} {x2 : Int32} {x3 : Int32} {x4 : Int32} {k : Int32 → Prop} (h : p_M_labelOf M_label x1 x2 x3 x4 k) :
    MTi l y_M_labelOf b_M_labelOf 6 (some .int) rm_M_labelOf D ca tp [.ref (am 0), .int x1, .int x2, .int x3, .int x4] (WM am ca M_clauses M_given M_end M_taped M_size M_at M_to M_sort M_worth M_faultKind M_faultPlace M_isTold M_nodes M_plain M_minus M_block M_left M_right M_pivot M_live M_needed M_label M_tape M_of M_kept M_had M_told M_first M_second M_node M_nodeVariable M_nodeLow M_nodeHigh M_wait)
      (fun r (_ : Unit) => k r)
      (fun (_ : Unit) => WM am ca M_clauses M_given M_end M_taped M_size M_at M_to M_sort M_worth M_faultKind M_faultPlace M_isTold M_nodes M_plain M_minus M_block M_left M_right M_pivot M_live M_needed M_label M_tape M_of M_kept M_had M_told M_first M_second M_node M_nodeVariable M_nodeLow M_nodeHigh M_wait) 0 0 := by
  refine x_entryi (own := R_M) (nm := "labelOf") (by decide) rfl rfl (Nat.le_of_ble_eq_true rfl) (fun p e s m below meth c A ls C0 hw hl => ?_)
  have hx := C0.1
  have hb := C0.2.1
  have hl : lv_has ls 6 [(0, .ref (am 0)), (1, .int x1), (2, .int x2), (3, .int x3), (4, .int x4)] := hl
  unfold p_M_labelOf at h
  refine lv_iconst (v := 1) hx hb d_M_labelOf_0 (by decide) ?_
  refine lv_iload_n hx hb d_M_labelOf_1 rfl (lv_at hl 1 rfl) ?_
  refine lv_iconst (v := 1) hx hb d_M_labelOf_2 (by decide) ?_
  refine lv_isub hx hb d_M_labelOf_3 ?_
  refine lv_ishl hx hb d_M_labelOf_4 ?_
  refine lv_istore (lv' := [(5, .int ((1 : Int32) <<< ((x1 - (1 : Int32)) &&& 31))), (0, .ref (am 0)), (1, .int x1), (2, .int x2), (3, .int x3), (4, .int x4)]) hx hb d_M_labelOf_5 hl (by decide) rfl (fun ls hl => ?_)
  refine lv_iload_n hx hb d_M_labelOf_7 rfl (lv_at hl 4 rfl) ?_
  refine lv_iload hx hb d_M_labelOf_8 (lv_at hl 0 rfl) ?_
  refine lv_iand hx hb d_M_labelOf_10 ?_
  refine lv_if_ne (tgt := 16) hx hb d_M_labelOf_11 (by decide) (fun c_1 => ?_) (fun c_1 => ?_)
  · have h := h.1 c_1
    refine lv_iload_n hx hb d_M_labelOf_16 rfl (lv_at hl 3 rfl) ?_
    refine lv_iload hx hb d_M_labelOf_17 (lv_at hl 0 rfl) ?_
    refine lv_iand hx hb d_M_labelOf_19 ?_
    refine lv_if_ne (tgt := 25) hx hb d_M_labelOf_20 (by decide) (fun c_2 => ?_) (fun c_2 => ?_)
    · have h := h.1 c_2
      refine lv_iload hx hb d_M_labelOf_25 (lv_at hl 5 rfl) ?_
      refine lv_if_ne (tgt := 34) hx hb d_M_labelOf_27 (by decide) (fun c_3 => ?_) (fun c_3 => ?_)
      · have h := h.1 c_3
        refine lv_iload hx hb d_M_labelOf_34 (lv_at hl 5 rfl) ?_
        refine lv_iconst (v := 1) hx hb d_M_labelOf_36 (by decide) ?_
        refine lv_icmp_ne (tgt := 44) hx hb d_M_labelOf_37 (by decide) (fun c_4 => ?_) (fun c_4 => ?_)
        · have h := h.1 c_4
          refine lv_iload hx hb d_M_labelOf_44 (lv_at hl 5 rfl) ?_
          refine lv_iconst (v := 2) hx hb d_M_labelOf_46 (by decide) ?_
          refine lv_icmp_ne (tgt := 54) hx hb d_M_labelOf_47 (by decide) (fun c_5 => ?_) (fun c_5 => ?_)
          · have h := h.1 c_5
            refine lv_aload_n hx hb d_M_labelOf_54 rfl (lv_at hl 1 rfl) ?_
            refine x_get C0 hw 0 rfl rfl i_M 11 (by decide) wm_736 rfl rfl d_M_labelOf_55 ?_
            refine lv_iload_n hx hb d_M_labelOf_58 rfl (lv_at hl 2 rfl) ?_
            obtain ⟨hi_6, h⟩ := h
            refine x_iald C0 hw 9 rfl hi_6 d_M_labelOf_59 ?_
            refine lv_if_ne (tgt := 67) hx hb d_M_labelOf_60 (by decide) (fun c_7 => ?_) (fun c_7 => ?_)
            · have h := h.1 c_7
              refine lv_aload_n hx hb d_M_labelOf_67 rfl (lv_at hl 1 rfl) ?_
              refine x_get C0 hw 0 rfl rfl i_M 11 (by decide) wm_736 rfl rfl d_M_labelOf_68 ?_
              refine lv_iload_n hx hb d_M_labelOf_71 rfl (lv_at hl 2 rfl) ?_
              refine x_iald C0 hw 9 rfl hi_6 d_M_labelOf_72 ?_
              exact x_iret C0 hw () h rfl d_M_labelOf_73
            · have h := h.2 c_7
              refine lv_iconst (v := 2) hx hb d_M_labelOf_63 (by decide) ?_
              refine lv_goto (tgt := 73) hx hb d_M_labelOf_64 (by decide) ?_
              exact x_iret C0 hw () h rfl d_M_labelOf_73
          · have h := h.2 c_5
            refine lv_iconst (v := 1) hx hb d_M_labelOf_50 (by decide) ?_
            refine lv_goto (tgt := 73) hx hb d_M_labelOf_51 (by decide) ?_
            exact x_iret C0 hw () h rfl d_M_labelOf_73
        · have h := h.2 c_4
          refine lv_iconst (v := 3) hx hb d_M_labelOf_40 (by decide) ?_
          refine lv_goto (tgt := 73) hx hb d_M_labelOf_41 (by decide) ?_
          exact x_iret C0 hw () h rfl d_M_labelOf_73
      · have h := h.2 c_3
        refine lv_iconst (v := 2) hx hb d_M_labelOf_30 (by decide) ?_
        refine lv_goto (tgt := 73) hx hb d_M_labelOf_31 (by decide) ?_
        exact x_iret C0 hw () h rfl d_M_labelOf_73
    · have h := h.2 c_2
      refine lv_iconst (v := 2) hx hb d_M_labelOf_23 (by decide) ?_
      exact x_iret C0 hw () h rfl d_M_labelOf_24
  · have h := h.2 c_1
    refine lv_iconst (v := 1) hx hb d_M_labelOf_14 (by decide) ?_
    exact x_iret C0 hw () h rfl d_M_labelOf_15
theorem g_M_sum : GY y_M_sum b_M_sum 10 (some .long) 6 := ⟨wm_929, wm_62, by decide +kernel, by decide +kernel, by decide +kernel⟩
def p_M_sum_J63 (M_minus : Nat → Int32) (k6 : Int64 → Int32 → Prop) (x1 : Int32) (x2 : Int32) (x3 : Int32) (x4 : Int32) (x5 : Int32) (x6 : Int32) (x7 : Int64) (x9 : Int32) : Prop :=
  (vp_in x1 202 ∧ (((((M_minus x1.toNatClampNeg) >>> ((x9 - (1 : Int32)) &&& 31)) &&& (1 : Int32)) = 0 → (k6 x7 (x9 + 1))) ∧ (¬ (((M_minus x1.toNatClampNeg) >>> ((x9 - (1 : Int32)) &&& 31)) &&& (1 : Int32)) = 0 → (p_M_word x9 x2 (fun (r_7 : Int64) => (k6 (x7 ||| (r_7 ^^^ (-1 : Int64))) (x9 + 1)))))))
def p_M_sum_J36 (M_plain : Nat → Int32) (M_minus : Nat → Int32) (k6 : Int64 → Int32 → Prop) (x1 : Int32) (x2 : Int32) (x3 : Int32) (x4 : Int32) (x5 : Int32) (x6 : Int32) (x7 : Int64) (x9 : Int32) : Prop :=
  (vp_in x1 202 ∧ (((((M_plain x1.toNatClampNeg) >>> ((x9 - (1 : Int32)) &&& 31)) &&& (1 : Int32)) = 0 → (p_M_sum_J63 M_minus k6 x1 x2 x3 x4 x5 x6 x7 x9)) ∧ (¬ (((M_plain x1.toNatClampNeg) >>> ((x9 - (1 : Int32)) &&& 31)) &&& (1 : Int32)) = 0 → (p_M_word x9 x2 (fun (r_8 : Int64) => (p_M_sum_J63 M_minus k6 x1 x2 x3 x4 x5 x6 (x7 ||| r_8) x9))))))
def p_M_sum_L6 (M_plain : Nat → Int32) (M_minus : Nat → Int32) (M_label : Nat → Int32) (x1 : Int32) (x2 : Int32) (x3 : Int32) (x4 : Int32) (x5 : Int32) (x6 : Int32) (k : Int64 → Prop) : Nat → Int64 → Int32 → Prop
  | 0, _, _ => False
  | n + 1, x7, x9 =>
    (((10 : Int32) < x9 → (k x7)) ∧ (¬ (10 : Int32) < x9 → ((x3 = 0 → (p_M_sum_J36 M_plain M_minus (p_M_sum_L6 M_plain M_minus M_label x1 x2 x3 x4 x5 x6 k n) x1 x2 x3 x4 x5 x6 x7 x9)) ∧ (¬ x3 = 0 → (p_M_labelOf M_label x9 x4 x5 x6 (fun (r_9 : Int32) => ((r_9 = x3 → (p_M_sum_J36 M_plain M_minus (p_M_sum_L6 M_plain M_minus M_label x1 x2 x3 x4 x5 x6 k n) x1 x2 x3 x4 x5 x6 x7 x9)) ∧ (¬ r_9 = x3 → (p_M_sum_L6 M_plain M_minus M_label x1 x2 x3 x4 x5 x6 k n x7 (x9 + 1))))))))))
def p_M_sum (M_plain : Nat → Int32) (M_minus : Nat → Int32) (M_label : Nat → Int32) (x1 : Int32) (x2 : Int32) (x3 : Int32) (x4 : Int32) (x5 : Int32) (x6 : Int32) (k : Int64 → Prop) : Prop :=
  (∃ j_11, p_M_sum_L6 M_plain M_minus M_label x1 x2 x3 x4 x5 x6 k j_11 (0 : Int64) (1 : Int32))
abbrev rm_M_sum : Room := { frames := 1, cells := 0, slots := 0, locals := 25 }
set_option maxHeartbeats 4000000 in
set_option maxRecDepth 100000 in
theorem b_M_sum_J63 {p : Program} {l : Launch} {e : Env} {s : State} {m : MethodId} {args : Array Value} {below : List Frame} {meth : Method} {c : Code} {D : va_G} {ca : Nat → ClassId} {tp : Nat} {A : Nat → Prop} {am : Nat → Nat} {M_clauses : Int32} {M_given : Int32} {M_end : Int32} {M_taped : Int32} {M_size : Int32} {M_at : Int32} {M_to : Int32} {M_sort : Int32} {M_worth : Int32} {M_faultKind : Int32} {M_faultPlace : Int32} {M_isTold : Int32} {M_nodes : Int32} {M_plain : Nat → Int32} {M_minus : Nat → Int32} {M_block : Nat → Int32} {M_left : Nat → Int32} {M_right : Nat → Int32} {M_pivot : Nat → Int32} {M_live : Nat → Int32} {M_needed : Nat → Int32} {M_label : Nat → Int32} {M_tape : Nat → Int32} {M_of : Nat → Int64} {M_kept : Nat → Int64} {M_had : Nat → Int32} {M_told : Nat → Int64} {M_first : Nat → Int64} {M_second : Nat → Int64} {M_node : Nat → Int64} {M_nodeVariable : Nat → Int32} {M_nodeLow : Nat → Int32} {M_nodeHigh : Nat → Int32} {M_wait : Nat → Int32}  {k : Int64 → Prop} {k6 : Int64 → Int32 → Prop} (C0 : CX p s m args meth c b_M_sum 10 (some .long) R_M "sum" D ca tp A) :
    ∀ (x1 : Int32) (x2 : Int32) (x3 : Int32) (x4 : Int32) (x5 : Int32) (x6 : Int32) (x7 : Int64) (x9 : Int32) {H : Heap} {locs : List Loc} {ls : Array Slot}, p_M_sum_J63 M_minus k6 x1 x2 x3 x4 x5 x6 x7 x9 → WH D A s (WM am ca M_clauses M_given M_end M_taped M_size M_at M_to M_sort M_worth M_faultKind M_faultPlace M_isTold M_nodes M_plain M_minus M_block M_left M_right M_pivot M_live M_needed M_label M_tape M_of M_kept M_had M_told M_first M_second M_node M_nodeVariable M_nodeLow M_nodeHigh M_wait) H locs → lv_has ls 10 [(0, .ref (am 0)), (1, .int x1), (2, .int x2), (3, .int x3), (4, .int x4), (5, .int x5), (6, .int x6), (7, .long x7), (9, .int x9)] →
      (∀ (x7 : Int64) (x9 : Int32) (H : Heap) (locs : List Loc) (ls : Array Slot), k6 x7 x9 → WH D A s (WM am ca M_clauses M_given M_end M_taped M_size M_at M_to M_sort M_worth M_faultKind M_faultPlace M_isTold M_nodes M_plain M_minus M_block M_left M_right M_pivot M_live M_needed M_label M_tape M_of M_kept M_had M_told M_first M_second M_node M_nodeVariable M_nodeLow M_nodeHigh M_wait) H locs → lv_has ls 10 [(0, .ref (am 0)), (1, .int x1), (2, .int x2), (3, .int x3), (4, .int x4), (5, .int x5), (6, .int x6), (7, .long x7), (9, .int x9)] → W p l e rm_M_sum s m args below meth c H locs 0 0 (QL D A below args s (fun r (_ : Unit) => k r) (fun (_ : Unit) => WM am ca M_clauses M_given M_end M_taped M_size M_at M_to M_sort M_worth M_faultKind M_faultPlace M_isTold M_nodes M_plain M_minus M_block M_left M_right M_pivot M_live M_needed M_label M_tape M_of M_kept M_had M_told M_first M_second M_node M_nodeVariable M_nodeLow M_nodeHigh M_wait) 0 0) (F0 m 6 ls [])) →
      W p l e rm_M_sum s m args below meth c H locs 0 0 (QL D A below args s (fun r (_ : Unit) => k r) (fun (_ : Unit) => WM am ca M_clauses M_given M_end M_taped M_size M_at M_to M_sort M_worth M_faultKind M_faultPlace M_isTold M_nodes M_plain M_minus M_block M_left M_right M_pivot M_live M_needed M_label M_tape M_of M_kept M_had M_told M_first M_second M_node M_nodeVariable M_nodeLow M_nodeHigh M_wait) 0 0) (F0 m 63 ls []) := by
  have hx := C0.1
  have hb := C0.2.1
  intro x1 x2 x3 x4 x5 x6 x7 x9 H locs ls h hw hl h6
  unfold p_M_sum_J63 at h
  refine lv_aload_n hx hb d_M_sum_63 rfl (lv_at hl 0 rfl) ?_
  refine x_get C0 hw 0 rfl rfl i_M 1 (by decide) wm_726 rfl rfl d_M_sum_64 ?_
  refine lv_iload_n hx hb d_M_sum_67 rfl (lv_at hl 1 rfl) ?_
  obtain ⟨hi_5, h⟩ := h
  refine x_iald C0 hw 2 rfl hi_5 d_M_sum_68 ?_
  refine lv_iload hx hb d_M_sum_69 (lv_at hl 8 rfl) ?_
  refine lv_iconst (v := 1) hx hb d_M_sum_71 (by decide) ?_
  refine lv_isub hx hb d_M_sum_72 ?_
  refine lv_ishr hx hb d_M_sum_73 ?_
  refine lv_iconst (v := 1) hx hb d_M_sum_74 (by decide) ?_
  refine lv_iand hx hb d_M_sum_75 ?_
  refine lv_if_eq (tgt := 94) hx hb d_M_sum_76 (by decide) (fun c_6 => ?_) (fun c_6 => ?_)
  · have h := h.1 c_6
    refine lv_iinc (v := (x9 + 1)) (lv' := [(9, .int (x9 + 1)), (0, .ref (am 0)), (1, .int x1), (2, .int x2), (3, .int x3), (4, .int x4), (5, .int x5), (6, .int x6), (7, .long x7)]) hx hb d_M_sum_94 hl (k := 8) rfl rfl (by decide) rfl (fun ls hl => ?_)
    refine lv_goto (tgt := 6) hx hb d_M_sum_97 (by decide) ?_
    exact h6 _ _ _ _ _ h hw (lv_sub hl [1, 2, 3, 4, 5, 6, 7, 8, 0] rfl)
  · have h := h.2 c_6
    refine lv_lload hx hb d_M_sum_79 (lv_at hl 7 rfl) ?_
    refine lv_iload hx hb d_M_sum_81 (lv_at hl 8 rfl) ?_
    refine lv_iload_n hx hb d_M_sum_83 rfl (lv_at hl 2 rfl) ?_
    refine x_callSl C0 hw hl (c_M_word h) g_M_word wm_934 wm_935 (As := [.int x9, .int x2]) (rest := [.long x7]) rfl rfl (Nat.le_of_ble_eq_true rfl) ⟨rfl, rfl⟩ ⟨Nat.le_of_ble_eq_true rfl, Nat.le_of_ble_eq_true rfl⟩ ⟨Nat.le_of_ble_eq_true rfl, Nat.le_of_ble_eq_true rfl⟩ d_M_sum_84 (fun r_7 u H locs h hw => ?_)
    refine x_ldc2 C0 wm_943 d_M_sum_87 ?_
    refine lv_lxor hx hb d_M_sum_90 ?_
    refine lv_lor hx hb d_M_sum_91 ?_
    refine lv_lstore (lv' := [(7, .long (x7 ||| (r_7 ^^^ (-1 : Int64)))), (0, .ref (am 0)), (1, .int x1), (2, .int x2), (3, .int x3), (4, .int x4), (5, .int x5), (6, .int x6), (9, .int x9)]) hx hb d_M_sum_92 hl (by decide) rfl (fun ls hl => ?_)
    refine lv_iinc (v := (x9 + 1)) (lv' := [(9, .int (x9 + 1)), (7, .long (x7 ||| (r_7 ^^^ (-1 : Int64)))), (0, .ref (am 0)), (1, .int x1), (2, .int x2), (3, .int x3), (4, .int x4), (5, .int x5), (6, .int x6)]) hx hb d_M_sum_94 hl (k := 8) rfl rfl (by decide) rfl (fun ls hl => ?_)
    refine lv_goto (tgt := 6) hx hb d_M_sum_97 (by decide) ?_
    exact h6 _ _ _ _ _ h hw (lv_sub hl [2, 3, 4, 5, 6, 7, 8, 1, 0] rfl)
set_option maxHeartbeats 4000000 in
set_option maxRecDepth 100000 in
theorem b_M_sum_J36 {p : Program} {l : Launch} {e : Env} {s : State} {m : MethodId} {args : Array Value} {below : List Frame} {meth : Method} {c : Code} {D : va_G} {ca : Nat → ClassId} {tp : Nat} {A : Nat → Prop} {am : Nat → Nat} {M_clauses : Int32} {M_given : Int32} {M_end : Int32} {M_taped : Int32} {M_size : Int32} {M_at : Int32} {M_to : Int32} {M_sort : Int32} {M_worth : Int32} {M_faultKind : Int32} {M_faultPlace : Int32} {M_isTold : Int32} {M_nodes : Int32} {M_plain : Nat → Int32} {M_minus : Nat → Int32} {M_block : Nat → Int32} {M_left : Nat → Int32} {M_right : Nat → Int32} {M_pivot : Nat → Int32} {M_live : Nat → Int32} {M_needed : Nat → Int32} {M_label : Nat → Int32} {M_tape : Nat → Int32} {M_of : Nat → Int64} {M_kept : Nat → Int64} {M_had : Nat → Int32} {M_told : Nat → Int64} {M_first : Nat → Int64} {M_second : Nat → Int64} {M_node : Nat → Int64} {M_nodeVariable : Nat → Int32} {M_nodeLow : Nat → Int32} {M_nodeHigh : Nat → Int32} {M_wait : Nat → Int32}  {k : Int64 → Prop} {k6 : Int64 → Int32 → Prop} (C0 : CX p s m args meth c b_M_sum 10 (some .long) R_M "sum" D ca tp A) :
    ∀ (x1 : Int32) (x2 : Int32) (x3 : Int32) (x4 : Int32) (x5 : Int32) (x6 : Int32) (x7 : Int64) (x9 : Int32) {H : Heap} {locs : List Loc} {ls : Array Slot}, p_M_sum_J36 M_plain M_minus k6 x1 x2 x3 x4 x5 x6 x7 x9 → WH D A s (WM am ca M_clauses M_given M_end M_taped M_size M_at M_to M_sort M_worth M_faultKind M_faultPlace M_isTold M_nodes M_plain M_minus M_block M_left M_right M_pivot M_live M_needed M_label M_tape M_of M_kept M_had M_told M_first M_second M_node M_nodeVariable M_nodeLow M_nodeHigh M_wait) H locs → lv_has ls 10 [(0, .ref (am 0)), (1, .int x1), (2, .int x2), (3, .int x3), (4, .int x4), (5, .int x5), (6, .int x6), (7, .long x7), (9, .int x9)] →
      (∀ (x7 : Int64) (x9 : Int32) (H : Heap) (locs : List Loc) (ls : Array Slot), k6 x7 x9 → WH D A s (WM am ca M_clauses M_given M_end M_taped M_size M_at M_to M_sort M_worth M_faultKind M_faultPlace M_isTold M_nodes M_plain M_minus M_block M_left M_right M_pivot M_live M_needed M_label M_tape M_of M_kept M_had M_told M_first M_second M_node M_nodeVariable M_nodeLow M_nodeHigh M_wait) H locs → lv_has ls 10 [(0, .ref (am 0)), (1, .int x1), (2, .int x2), (3, .int x3), (4, .int x4), (5, .int x5), (6, .int x6), (7, .long x7), (9, .int x9)] → W p l e rm_M_sum s m args below meth c H locs 0 0 (QL D A below args s (fun r (_ : Unit) => k r) (fun (_ : Unit) => WM am ca M_clauses M_given M_end M_taped M_size M_at M_to M_sort M_worth M_faultKind M_faultPlace M_isTold M_nodes M_plain M_minus M_block M_left M_right M_pivot M_live M_needed M_label M_tape M_of M_kept M_had M_told M_first M_second M_node M_nodeVariable M_nodeLow M_nodeHigh M_wait) 0 0) (F0 m 6 ls [])) →
      W p l e rm_M_sum s m args below meth c H locs 0 0 (QL D A below args s (fun r (_ : Unit) => k r) (fun (_ : Unit) => WM am ca M_clauses M_given M_end M_taped M_size M_at M_to M_sort M_worth M_faultKind M_faultPlace M_isTold M_nodes M_plain M_minus M_block M_left M_right M_pivot M_live M_needed M_label M_tape M_of M_kept M_had M_told M_first M_second M_node M_nodeVariable M_nodeLow M_nodeHigh M_wait) 0 0) (F0 m 36 ls []) := by
  have hx := C0.1
  have hb := C0.2.1
  intro x1 x2 x3 x4 x5 x6 x7 x9 H locs ls h hw hl h6
  unfold p_M_sum_J36 at h
  refine lv_aload_n hx hb d_M_sum_36 rfl (lv_at hl 0 rfl) ?_
  refine x_get C0 hw 0 rfl rfl i_M 0 (by decide) wm_725 rfl rfl d_M_sum_37 ?_
  refine lv_iload_n hx hb d_M_sum_40 rfl (lv_at hl 1 rfl) ?_
  obtain ⟨hi_3, h⟩ := h
  refine x_iald C0 hw 1 rfl hi_3 d_M_sum_41 ?_
  refine lv_iload hx hb d_M_sum_42 (lv_at hl 8 rfl) ?_
  refine lv_iconst (v := 1) hx hb d_M_sum_44 (by decide) ?_
  refine lv_isub hx hb d_M_sum_45 ?_
  refine lv_ishr hx hb d_M_sum_46 ?_
  refine lv_iconst (v := 1) hx hb d_M_sum_47 (by decide) ?_
  refine lv_iand hx hb d_M_sum_48 ?_
  refine lv_if_eq (tgt := 63) hx hb d_M_sum_49 (by decide) (fun c_4 => ?_) (fun c_4 => ?_)
  · have h := h.1 c_4
    refine b_M_sum_J63 C0 _ _ _ _ _ _ _ _ h hw (lv_sub hl [0, 1, 2, 3, 4, 5, 6, 7, 8] rfl) h6
  · have h := h.2 c_4
    refine lv_lload hx hb d_M_sum_52 (lv_at hl 7 rfl) ?_
    refine lv_iload hx hb d_M_sum_54 (lv_at hl 8 rfl) ?_
    refine lv_iload_n hx hb d_M_sum_56 rfl (lv_at hl 2 rfl) ?_
    refine x_callSl C0 hw hl (c_M_word h) g_M_word wm_934 wm_935 (As := [.int x9, .int x2]) (rest := [.long x7]) rfl rfl (Nat.le_of_ble_eq_true rfl) ⟨rfl, rfl⟩ ⟨Nat.le_of_ble_eq_true rfl, Nat.le_of_ble_eq_true rfl⟩ ⟨Nat.le_of_ble_eq_true rfl, Nat.le_of_ble_eq_true rfl⟩ d_M_sum_57 (fun r_8 u H locs h hw => ?_)
    refine lv_lor hx hb d_M_sum_60 ?_
    refine lv_lstore (lv' := [(7, .long (x7 ||| r_8)), (0, .ref (am 0)), (1, .int x1), (2, .int x2), (3, .int x3), (4, .int x4), (5, .int x5), (6, .int x6), (9, .int x9)]) hx hb d_M_sum_61 hl (by decide) rfl (fun ls hl => ?_)
    refine b_M_sum_J63 C0 _ _ _ _ _ _ _ _ h hw (lv_sub hl [1, 2, 3, 4, 5, 6, 7, 0, 8] rfl) h6
set_option maxHeartbeats 4000000 in
set_option maxRecDepth 100000 in
theorem b_M_sum_L6 {p : Program} {l : Launch} {e : Env} {s : State} {m : MethodId} {args : Array Value} {below : List Frame} {meth : Method} {c : Code} {D : va_G} {ca : Nat → ClassId} {tp : Nat} {A : Nat → Prop} {am : Nat → Nat} {M_clauses : Int32} {M_given : Int32} {M_end : Int32} {M_taped : Int32} {M_size : Int32} {M_at : Int32} {M_to : Int32} {M_sort : Int32} {M_worth : Int32} {M_faultKind : Int32} {M_faultPlace : Int32} {M_isTold : Int32} {M_nodes : Int32} {M_plain : Nat → Int32} {M_minus : Nat → Int32} {M_block : Nat → Int32} {M_left : Nat → Int32} {M_right : Nat → Int32} {M_pivot : Nat → Int32} {M_live : Nat → Int32} {M_needed : Nat → Int32} {M_label : Nat → Int32} {M_tape : Nat → Int32} {M_of : Nat → Int64} {M_kept : Nat → Int64} {M_had : Nat → Int32} {M_told : Nat → Int64} {M_first : Nat → Int64} {M_second : Nat → Int64} {M_node : Nat → Int64} {M_nodeVariable : Nat → Int32} {M_nodeLow : Nat → Int32} {M_nodeHigh : Nat → Int32} {M_wait : Nat → Int32} {x1 : Int32} {x2 : Int32} {x3 : Int32} {x4 : Int32} {x5 : Int32} {x6 : Int32} {k : Int64 → Prop}  (C0 : CX p s m args meth c b_M_sum 10 (some .long) R_M "sum" D ca tp A) :
    ∀ (n : Nat) (x7 : Int64) (x9 : Int32) {H : Heap} {locs : List Loc} {ls : Array Slot}, p_M_sum_L6 M_plain M_minus M_label x1 x2 x3 x4 x5 x6 k n x7 x9 → WH D A s (WM am ca M_clauses M_given M_end M_taped M_size M_at M_to M_sort M_worth M_faultKind M_faultPlace M_isTold M_nodes M_plain M_minus M_block M_left M_right M_pivot M_live M_needed M_label M_tape M_of M_kept M_had M_told M_first M_second M_node M_nodeVariable M_nodeLow M_nodeHigh M_wait) H locs → lv_has ls 10 [(0, .ref (am 0)), (1, .int x1), (2, .int x2), (3, .int x3), (4, .int x4), (5, .int x5), (6, .int x6), (7, .long x7), (9, .int x9)] →
      W p l e rm_M_sum s m args below meth c H locs 0 0 (QL D A below args s (fun r (_ : Unit) => k r) (fun (_ : Unit) => WM am ca M_clauses M_given M_end M_taped M_size M_at M_to M_sort M_worth M_faultKind M_faultPlace M_isTold M_nodes M_plain M_minus M_block M_left M_right M_pivot M_live M_needed M_label M_tape M_of M_kept M_had M_told M_first M_second M_node M_nodeVariable M_nodeLow M_nodeHigh M_wait) 0 0) (F0 m 6 ls []) := by
  have hx := C0.1
  have hb := C0.2.1
  intro n
  induction n with
  | zero =>
    intro x7 x9 H locs ls h
    exact False.elim h
  | succ n ih =>
    intro x7 x9 H locs ls h hw hl
    unfold p_M_sum_L6 at h
    refine lv_iload hx hb d_M_sum_6 (lv_at hl 8 rfl) ?_
    refine lv_bipush (v := 10) hx hb d_M_sum_8 (by decide) ?_
    refine lv_icmp_gt (tgt := 100) hx hb d_M_sum_10 (by decide) (fun c_1 => ?_) (fun c_1 => ?_)
    · have h := h.1 c_1
      refine lv_lload hx hb d_M_sum_100 (lv_at hl 7 rfl) ?_
      exact x_lret C0 hw () h rfl d_M_sum_102
    · have h := h.2 c_1
      refine lv_iload_n hx hb d_M_sum_13 rfl (lv_at hl 3 rfl) ?_
      refine lv_if_eq (tgt := 36) hx hb d_M_sum_14 (by decide) (fun c_2 => ?_) (fun c_2 => ?_)
      · have h := h.1 c_2
        refine b_M_sum_J36 C0 _ _ _ _ _ _ _ _ h hw (lv_sub hl [0, 1, 2, 3, 4, 5, 6, 7, 8] rfl) (fun _ _ H locs ls h hw hl => ih _ _ h hw hl)
      · have h := h.2 c_2
        refine lv_aload_n hx hb d_M_sum_17 rfl (lv_at hl 0 rfl) ?_
        refine lv_iload hx hb d_M_sum_18 (lv_at hl 8 rfl) ?_
        refine lv_iload hx hb d_M_sum_20 (lv_at hl 4 rfl) ?_
        refine lv_iload hx hb d_M_sum_22 (lv_at hl 5 rfl) ?_
        refine lv_iload hx hb d_M_sum_24 (lv_at hl 6 rfl) ?_
        refine x_callVi C0 hw hl (c_M_labelOf h) g_M_labelOf wm_930 ⟨wm_46, wm_932⟩ 0 rfl rfl rfl (As := [.int x9, .int x4, .int x5, .int x6]) (rest := []) rfl rfl (Nat.le_of_ble_eq_true rfl) ⟨rfl, rfl⟩ ⟨Nat.le_of_ble_eq_true rfl, Nat.le_of_ble_eq_true rfl⟩ ⟨Nat.le_of_ble_eq_true rfl, Nat.le_of_ble_eq_true rfl⟩ d_M_sum_26 (fun r_9 u H locs h hw => ?_)
        refine lv_iload_n hx hb d_M_sum_29 rfl (lv_at hl 3 rfl) ?_
        refine lv_icmp_eq (tgt := 36) hx hb d_M_sum_30 (by decide) (fun c_10 => ?_) (fun c_10 => ?_)
        · have h := h.1 c_10
          refine b_M_sum_J36 C0 _ _ _ _ _ _ _ _ h hw (lv_sub hl [0, 1, 2, 3, 4, 5, 6, 7, 8] rfl) (fun _ _ H locs ls h hw hl => ih _ _ h hw hl)
        · have h := h.2 c_10
          refine lv_goto (tgt := 94) hx hb d_M_sum_33 (by decide) ?_
          refine lv_iinc (v := (x9 + 1)) (lv' := [(9, .int (x9 + 1)), (0, .ref (am 0)), (1, .int x1), (2, .int x2), (3, .int x3), (4, .int x4), (5, .int x5), (6, .int x6), (7, .long x7)]) hx hb d_M_sum_94 hl (k := 8) rfl rfl (by decide) rfl (fun ls hl => ?_)
          refine lv_goto (tgt := 6) hx hb d_M_sum_97 (by decide) ?_
          exact ih _ _ h hw (lv_sub hl [1, 2, 3, 4, 5, 6, 7, 8, 0] rfl)
set_option maxHeartbeats 4000000 in
set_option maxRecDepth 100000 in
theorem c_M_sum {l : Launch} {D : va_G} {ca : Nat → ClassId} {tp : Nat} {am : Nat → Nat} {M_clauses : Int32} {M_given : Int32} {M_end : Int32} {M_taped : Int32} {M_size : Int32} {M_at : Int32} {M_to : Int32} {M_sort : Int32} {M_worth : Int32} {M_faultKind : Int32} {M_faultPlace : Int32} {M_isTold : Int32} {M_nodes : Int32} {M_plain : Nat → Int32} {M_minus : Nat → Int32} {M_block : Nat → Int32} {M_left : Nat → Int32} {M_right : Nat → Int32} {M_pivot : Nat → Int32} {M_live : Nat → Int32} {M_needed : Nat → Int32} {M_label : Nat → Int32} {M_tape : Nat → Int32} {M_of : Nat → Int64} {M_kept : Nat → Int64} {M_had : Nat → Int32} {M_told : Nat → Int64} {M_first : Nat → Int64} {M_second : Nat → Int64} {M_node : Nat → Int64} {M_nodeVariable : Nat → Int32} {M_nodeLow : Nat → Int32} {M_nodeHigh : Nat → Int32} {M_wait : Nat → Int32} {x1 : Int32} {x2 : Int32} {x3 : Int32} {x4 : Int32} {x5 : Int32} {x6 : Int32} {k : Int64 → Prop} (h : p_M_sum M_plain M_minus M_label x1 x2 x3 x4 x5 x6 k) :
    MTl l y_M_sum b_M_sum 10 (some .long) rm_M_sum D ca tp [.ref (am 0), .int x1, .int x2, .int x3, .int x4, .int x5, .int x6] (WM am ca M_clauses M_given M_end M_taped M_size M_at M_to M_sort M_worth M_faultKind M_faultPlace M_isTold M_nodes M_plain M_minus M_block M_left M_right M_pivot M_live M_needed M_label M_tape M_of M_kept M_had M_told M_first M_second M_node M_nodeVariable M_nodeLow M_nodeHigh M_wait)
      (fun r (_ : Unit) => k r)
      (fun (_ : Unit) => WM am ca M_clauses M_given M_end M_taped M_size M_at M_to M_sort M_worth M_faultKind M_faultPlace M_isTold M_nodes M_plain M_minus M_block M_left M_right M_pivot M_live M_needed M_label M_tape M_of M_kept M_had M_told M_first M_second M_node M_nodeVariable M_nodeLow M_nodeHigh M_wait) 0 0 := by
  refine x_entryl (own := R_M) (nm := "sum") (by decide) rfl rfl (Nat.le_of_ble_eq_true rfl) (fun p e s m below meth c A ls C0 hw hl => ?_)
  have hx := C0.1
  have hb := C0.2.1
  have hl : lv_has ls 10 [(0, .ref (am 0)), (1, .int x1), (2, .int x2), (3, .int x3), (4, .int x4), (5, .int x5), (6, .int x6)] := hl
  unfold p_M_sum at h
  refine lv_lconst (v := 0) hx hb d_M_sum_0 (by decide) ?_
  refine lv_lstore (lv' := [(7, .long (0 : Int64)), (0, .ref (am 0)), (1, .int x1), (2, .int x2), (3, .int x3), (4, .int x4), (5, .int x5), (6, .int x6)]) hx hb d_M_sum_1 hl (by decide) rfl (fun ls hl => ?_)
  refine lv_iconst (v := 1) hx hb d_M_sum_3 (by decide) ?_
  refine lv_istore (lv' := [(9, .int (1 : Int32)), (7, .long (0 : Int64)), (0, .ref (am 0)), (1, .int x1), (2, .int x2), (3, .int x3), (4, .int x4), (5, .int x5), (6, .int x6)]) hx hb d_M_sum_4 hl (by decide) rfl (fun ls hl => ?_)
  obtain ⟨j_11, h⟩ := h
  refine b_M_sum_L6 C0 _ _ _ h hw (lv_sub hl [2, 3, 4, 5, 6, 7, 8, 1, 0] rfl)
theorem g_M_partials : GY y_M_partials b_M_partials 16 none 2 := ⟨wm_925, wm_62, by decide +kernel, by decide +kernel, by decide +kernel⟩
def p_M_partials_L43 (M_plain : Nat → Int32) (M_minus : Nat → Int32) (M_block : Nat → Int32) (M_left : Nat → Int32) (M_right : Nat → Int32) (M_pivot : Nat → Int32) (M_label : Nat → Int32) (x1 : Int32) (x2 : Int32) (x3 : Int32) (x4 : Int32) (x5 : Int32) (k246 : (Nat → Int64) → Prop) : Nat → Int32 → (Nat → Int64) → Prop
  | 0, _, _ => False
  | n + 1, x6, M_of =>
    (((16 : Int32) ≤ x6 → (k246 M_of)) ∧ (¬ (16 : Int32) ≤ x6 → (vp_in x5 202 ∧ (((M_block x5.toNatClampNeg) ≤ 0 → (p_M_labelOf M_label (M_pivot x5.toNatClampNeg) x3 x4 x2 (fun (r_9 : Int32) => (vp_in (((16 : Int32) * (M_left x5.toNatClampNeg)) + x6) 3232 ∧ (∀ v10_11 : Int64, v10_11 = (M_of (((16 : Int32) * (M_left x5.toNatClampNeg)) + x6).toNatClampNeg) → (vp_in (((16 : Int32) * (M_right x5.toNatClampNeg)) + x6) 3232 ∧ (∀ v12_13 : Int64, v12_13 = (M_of (((16 : Int32) * (M_right x5.toNatClampNeg)) + x6).toNatClampNeg) → (p_M_word (M_pivot x5.toNatClampNeg) x6 (fun (r_14 : Int64) => ((¬ r_9 = (1 : Int32) → ((¬ r_9 = (2 : Int32) → (∀ v7_17 : Int64, v7_17 = ((r_14 ||| v10_11) &&& ((r_14 ^^^ (-1 : Int64)) ||| v12_13)) → (vp_in (((16 : Int32) * x5) + x6) 3232 ∧ (p_M_partials_L43 M_plain M_minus M_block M_left M_right M_pivot M_label x1 x2 x3 x4 x5 k246 n (x6 + 1) (vp_updL M_of (((16 : Int32) * x5) + x6).toNatClampNeg v7_17))))) ∧ (r_9 = (2 : Int32) → (vp_in (((16 : Int32) * x5) + x6) 3232 ∧ (p_M_partials_L43 M_plain M_minus M_block M_left M_right M_pivot M_label x1 x2 x3 x4 x5 k246 n (x6 + 1) (vp_updL M_of (((16 : Int32) * x5) + x6).toNatClampNeg (v10_11 &&& v12_13))))))) ∧ (r_9 = (1 : Int32) → (vp_in (((16 : Int32) * x5) + x6) 3232 ∧ (p_M_partials_L43 M_plain M_minus M_block M_left M_right M_pivot M_label x1 x2 x3 x4 x5 k246 n (x6 + 1) (vp_updL M_of (((16 : Int32) * x5) + x6).toNatClampNeg (v10_11 ||| v12_13))))))))))))))) ∧ (¬ (M_block x5.toNatClampNeg) ≤ 0 → ((x1 < (M_block x5.toNatClampNeg) → (p_M_sum M_plain M_minus M_label x5 x6 (1 : Int32) x3 x4 x2 (fun (r_22 : Int64) => (vp_in (((16 : Int32) * x5) + x6) 3232 ∧ (p_M_partials_L43 M_plain M_minus M_block M_left M_right M_pivot M_label x1 x2 x3 x4 x5 k246 n (x6 + 1) (vp_updL M_of (((16 : Int32) * x5) + x6).toNatClampNeg (r_22 ^^^ (-1 : Int64)))))))) ∧ (¬ x1 < (M_block x5.toNatClampNeg) → (p_M_sum M_plain M_minus M_label x5 x6 (2 : Int32) x3 x4 x2 (fun (r_24 : Int64) => (vp_in (((16 : Int32) * x5) + x6) 3232 ∧ (p_M_partials_L43 M_plain M_minus M_block M_left M_right M_pivot M_label x1 x2 x3 x4 x5 k246 n (x6 + 1) (vp_updL M_of (((16 : Int32) * x5) + x6).toNatClampNeg r_24))))))))))))
def p_M_partials_L18 (M_clauses : Int32) (M_plain : Nat → Int32) (M_minus : Nat → Int32) (M_block : Nat → Int32) (M_left : Nat → Int32) (M_right : Nat → Int32) (M_pivot : Nat → Int32) (M_needed : Nat → Int32) (M_label : Nat → Int32) (x1 : Int32) (x2 : Int32) (x3 : Int32) (x4 : Int32) (k : (Nat → Int64) → Prop) : Nat → Int32 → (Nat → Int64) → Prop
  | 0, _, _ => False
  | n + 1, x5, M_of =>
    ((M_clauses < x5 → (k M_of)) ∧ (¬ M_clauses < x5 → (vp_in x5 202 ∧ ((¬ (M_needed x5.toNatClampNeg) = 0 → (∃ j_27, p_M_partials_L43 M_plain M_minus M_block M_left M_right M_pivot M_label x1 x2 x3 x4 x5 (fun (M_of_26 : Nat → Int64) => (p_M_partials_L18 M_clauses M_plain M_minus M_block M_left M_right M_pivot M_needed M_label x1 x2 x3 x4 k n (x5 + 1) M_of_26)) j_27 (0 : Int32) M_of)) ∧ ((M_needed x5.toNatClampNeg) = 0 → (p_M_partials_L18 M_clauses M_plain M_minus M_block M_left M_right M_pivot M_needed M_label x1 x2 x3 x4 k n (x5 + 1) M_of))))))
def p_M_partials (M_clauses : Int32) (M_plain : Nat → Int32) (M_minus : Nat → Int32) (M_block : Nat → Int32) (M_left : Nat → Int32) (M_right : Nat → Int32) (M_pivot : Nat → Int32) (M_needed : Nat → Int32) (M_label : Nat → Int32) (M_of : Nat → Int64) (x1 : Int32) (x2 : Int32) (k : (Nat → Int64) → Prop) : Prop :=
  (p_M_variablesOf M_clauses M_plain M_minus M_block (0 : Int32) x1 (fun (r_1 : Int32) => (p_M_variablesOf M_clauses M_plain M_minus M_block (1 : Int32) x1 (fun (r_2 : Int32) => (∃ j_28, p_M_partials_L18 M_clauses M_plain M_minus M_block M_left M_right M_pivot M_needed M_label x1 x2 r_1 r_2 k j_28 (1 : Int32) M_of)))))
abbrev rm_M_partials : Room := { frames := 2, cells := 0, slots := 0, locals := 54 }
set_option maxHeartbeats 4000000 in
set_option maxRecDepth 100000 in
theorem b_M_partials_L43 {p : Program} {l : Launch} {e : Env} {s : State} {m : MethodId} {args : Array Value} {below : List Frame} {meth : Method} {c : Code} {D : va_G} {ca : Nat → ClassId} {tp : Nat} {A : Nat → Prop} {am : Nat → Nat} {M_clauses : Int32} {M_given : Int32} {M_end : Int32} {M_taped : Int32} {M_size : Int32} {M_at : Int32} {M_to : Int32} {M_sort : Int32} {M_worth : Int32} {M_faultKind : Int32} {M_faultPlace : Int32} {M_isTold : Int32} {M_nodes : Int32} {M_plain : Nat → Int32} {M_minus : Nat → Int32} {M_block : Nat → Int32} {M_left : Nat → Int32} {M_right : Nat → Int32} {M_pivot : Nat → Int32} {M_live : Nat → Int32} {M_needed : Nat → Int32} {M_label : Nat → Int32} {M_tape : Nat → Int32} {M_kept : Nat → Int64} {M_had : Nat → Int32} {M_told : Nat → Int64} {M_first : Nat → Int64} {M_second : Nat → Int64} {M_node : Nat → Int64} {M_nodeVariable : Nat → Int32} {M_nodeLow : Nat → Int32} {M_nodeHigh : Nat → Int32} {M_wait : Nat → Int32} {x1 : Int32} {x2 : Int32} {x3 : Int32} {x4 : Int32} {x5 : Int32} {k : (Nat → Int64) → Prop} {k246 : (Nat → Int64) → Prop} (C0 : CX p s m args meth c b_M_partials 16 none R_M "partials" D ca tp A) :
    ∀ (n : Nat) (x6 : Int32) (M_of : Nat → Int64) {H : Heap} {locs : List Loc} {ls : Array Slot}, p_M_partials_L43 M_plain M_minus M_block M_left M_right M_pivot M_label x1 x2 x3 x4 x5 k246 n x6 M_of → WH D A s (WM am ca M_clauses M_given M_end M_taped M_size M_at M_to M_sort M_worth M_faultKind M_faultPlace M_isTold M_nodes M_plain M_minus M_block M_left M_right M_pivot M_live M_needed M_label M_tape M_of M_kept M_had M_told M_first M_second M_node M_nodeVariable M_nodeLow M_nodeHigh M_wait) H locs → lv_has ls 16 [(0, .ref (am 0)), (1, .int x1), (2, .int x2), (3, .int x3), (4, .int x4), (5, .int x5), (6, .int x6)] →
      (∀ (M_of : Nat → Int64) (H : Heap) (locs : List Loc) (ls : Array Slot), k246 M_of → WH D A s (WM am ca M_clauses M_given M_end M_taped M_size M_at M_to M_sort M_worth M_faultKind M_faultPlace M_isTold M_nodes M_plain M_minus M_block M_left M_right M_pivot M_live M_needed M_label M_tape M_of M_kept M_had M_told M_first M_second M_node M_nodeVariable M_nodeLow M_nodeHigh M_wait) H locs → lv_has ls 16 [(0, .ref (am 0)), (1, .int x1), (2, .int x2), (3, .int x3), (4, .int x4), (5, .int x5)] → W p l e rm_M_partials s m args below meth c H locs 0 0 (QV D A below args s (fun (u : (Nat → Int64)) => k u) (fun (u : (Nat → Int64)) => WM am ca M_clauses M_given M_end M_taped M_size M_at M_to M_sort M_worth M_faultKind M_faultPlace M_isTold M_nodes M_plain M_minus M_block M_left M_right M_pivot M_live M_needed M_label M_tape u M_kept M_had M_told M_first M_second M_node M_nodeVariable M_nodeLow M_nodeHigh M_wait) 0 0) (F0 m 246 ls [])) →
      W p l e rm_M_partials s m args below meth c H locs 0 0 (QV D A below args s (fun (u : (Nat → Int64)) => k u) (fun (u : (Nat → Int64)) => WM am ca M_clauses M_given M_end M_taped M_size M_at M_to M_sort M_worth M_faultKind M_faultPlace M_isTold M_nodes M_plain M_minus M_block M_left M_right M_pivot M_live M_needed M_label M_tape u M_kept M_had M_told M_first M_second M_node M_nodeVariable M_nodeLow M_nodeHigh M_wait) 0 0) (F0 m 43 ls []) := by
  have hx := C0.1
  have hb := C0.2.1
  intro n
  induction n with
  | zero =>
    intro x6 M_of H locs ls h
    exact False.elim h
  | succ n ih =>
    intro x6 M_of H locs ls h hw hl h246
    unfold p_M_partials_L43 at h
    refine lv_iload hx hb d_M_partials_43 (lv_at hl 6 rfl) ?_
    refine lv_bipush (v := 16) hx hb d_M_partials_45 (by decide) ?_
    refine lv_icmp_ge (tgt := 246) hx hb d_M_partials_47 (by decide) (fun c_6 => ?_) (fun c_6 => ?_)
    · have h := h.1 c_6
      exact h246 _ _ _ _ h hw (lv_sub hl [0, 1, 2, 3, 4, 5] rfl)
    · have h := h.2 c_6
      refine lv_aload_n hx hb d_M_partials_50 rfl (lv_at hl 0 rfl) ?_
      refine x_get C0 hw 0 rfl rfl i_M 2 (by decide) wm_727 rfl rfl d_M_partials_51 ?_
      refine lv_iload hx hb d_M_partials_54 (lv_at hl 5 rfl) ?_
      obtain ⟨hi_7, h⟩ := h
      refine x_iald C0 hw 3 rfl hi_7 d_M_partials_56 ?_
      refine lv_if_le (tgt := 109) hx hb d_M_partials_57 (by decide) (fun c_8 => ?_) (fun c_8 => ?_)
      · have h := h.1 c_8
        refine lv_aload_n hx hb d_M_partials_109 rfl (lv_at hl 0 rfl) ?_
        refine lv_aload_n hx hb d_M_partials_110 rfl (lv_at hl 0 rfl) ?_
        refine x_get C0 hw 0 rfl rfl i_M 5 (by decide) wm_730 rfl rfl d_M_partials_111 ?_
        refine lv_iload hx hb d_M_partials_114 (lv_at hl 5 rfl) ?_
        refine x_iald C0 hw 6 rfl hi_7 d_M_partials_116 ?_
        refine lv_iload_n hx hb d_M_partials_117 rfl (lv_at hl 3 rfl) ?_
        refine lv_iload hx hb d_M_partials_118 (lv_at hl 4 rfl) ?_
        refine lv_iload_n hx hb d_M_partials_120 rfl (lv_at hl 2 rfl) ?_
        refine x_callVi C0 hw hl (c_M_labelOf h) g_M_labelOf wm_930 ⟨wm_46, wm_932⟩ 0 rfl rfl rfl (As := [.int (M_pivot x5.toNatClampNeg), .int x3, .int x4, .int x2]) (rest := []) rfl rfl (Nat.le_of_ble_eq_true rfl) ⟨rfl, rfl⟩ ⟨Nat.le_of_ble_eq_true rfl, Nat.le_of_ble_eq_true rfl⟩ ⟨Nat.le_of_ble_eq_true rfl, Nat.le_of_ble_eq_true rfl⟩ d_M_partials_121 (fun r_9 u H locs h hw => ?_)
        refine lv_istore (lv' := [(9, .int r_9), (0, .ref (am 0)), (1, .int x1), (2, .int x2), (3, .int x3), (4, .int x4), (5, .int x5), (6, .int x6)]) hx hb d_M_partials_124 hl (by decide) rfl (fun ls hl => ?_)
        refine lv_aload_n hx hb d_M_partials_126 rfl (lv_at hl 1 rfl) ?_
        refine x_get C0 hw 0 rfl rfl i_M 21 (by decide) wm_746 rfl rfl d_M_partials_127 ?_
        refine lv_bipush (v := 16) hx hb d_M_partials_130 (by decide) ?_
        refine lv_aload_n hx hb d_M_partials_132 rfl (lv_at hl 1 rfl) ?_
        refine x_get C0 hw 0 rfl rfl i_M 3 (by decide) wm_728 rfl rfl d_M_partials_133 ?_
        refine lv_iload hx hb d_M_partials_136 (lv_at hl 6 rfl) ?_
        refine x_iald C0 hw 4 rfl hi_7 d_M_partials_138 ?_
        refine lv_imul hx hb d_M_partials_139 ?_
        refine lv_iload hx hb d_M_partials_140 (lv_at hl 7 rfl) ?_
        refine lv_iadd hx hb d_M_partials_142 ?_
        obtain ⟨hi_10, h⟩ := h
        refine x_lald C0 hw 11 rfl hi_10 d_M_partials_143 ?_
        refine lv_topl (fun v10_11 e_v10_11 => ?_)
        have h := h v10_11 e_v10_11
        refine lv_lstore (lv' := [(10, .long v10_11), (9, .int r_9), (0, .ref (am 0)), (1, .int x1), (2, .int x2), (3, .int x3), (4, .int x4), (5, .int x5), (6, .int x6)]) hx hb d_M_partials_144 hl (by decide) rfl (fun ls hl => ?_)
        refine lv_aload_n hx hb d_M_partials_146 rfl (lv_at hl 2 rfl) ?_
        refine x_get C0 hw 0 rfl rfl i_M 21 (by decide) wm_746 rfl rfl d_M_partials_147 ?_
        refine lv_bipush (v := 16) hx hb d_M_partials_150 (by decide) ?_
        refine lv_aload_n hx hb d_M_partials_152 rfl (lv_at hl 2 rfl) ?_
        refine x_get C0 hw 0 rfl rfl i_M 4 (by decide) wm_729 rfl rfl d_M_partials_153 ?_
        refine lv_iload hx hb d_M_partials_156 (lv_at hl 7 rfl) ?_
        refine x_iald C0 hw 5 rfl hi_7 d_M_partials_158 ?_
        refine lv_imul hx hb d_M_partials_159 ?_
        refine lv_iload hx hb d_M_partials_160 (lv_at hl 8 rfl) ?_
        refine lv_iadd hx hb d_M_partials_162 ?_
        obtain ⟨hi_12, h⟩ := h
        refine x_lald C0 hw 11 rfl hi_12 d_M_partials_163 ?_
        refine lv_topl (fun v12_13 e_v12_13 => ?_)
        have h := h v12_13 e_v12_13
        refine lv_lstore (lv' := [(12, .long v12_13), (10, .long v10_11), (9, .int r_9), (0, .ref (am 0)), (1, .int x1), (2, .int x2), (3, .int x3), (4, .int x4), (5, .int x5), (6, .int x6)]) hx hb d_M_partials_164 hl (by decide) rfl (fun ls hl => ?_)
        refine lv_aload_n hx hb d_M_partials_166 rfl (lv_at hl 3 rfl) ?_
        refine x_get C0 hw 0 rfl rfl i_M 5 (by decide) wm_730 rfl rfl d_M_partials_167 ?_
        refine lv_iload hx hb d_M_partials_170 (lv_at hl 8 rfl) ?_
        refine x_iald C0 hw 6 rfl hi_7 d_M_partials_172 ?_
        refine lv_iload hx hb d_M_partials_173 (lv_at hl 9 rfl) ?_
        refine x_callSl C0 hw hl (c_M_word h) g_M_word wm_934 wm_935 (As := [.int (M_pivot x5.toNatClampNeg), .int x6]) (rest := []) rfl rfl (Nat.le_of_ble_eq_true rfl) ⟨rfl, rfl⟩ ⟨Nat.le_of_ble_eq_true rfl, Nat.le_of_ble_eq_true rfl⟩ ⟨Nat.le_of_ble_eq_true rfl, Nat.le_of_ble_eq_true rfl⟩ d_M_partials_175 (fun r_14 u H locs h hw => ?_)
        refine lv_lstore (lv' := [(14, .long r_14), (12, .long v12_13), (10, .long v10_11), (9, .int r_9), (0, .ref (am 0)), (1, .int x1), (2, .int x2), (3, .int x3), (4, .int x4), (5, .int x5), (6, .int x6)]) hx hb d_M_partials_178 hl (by decide) rfl (fun ls hl => ?_)
        refine lv_iload hx hb d_M_partials_180 (lv_at hl 3 rfl) ?_
        refine lv_iconst (v := 1) hx hb d_M_partials_182 (by decide) ?_
        refine lv_icmp_ne (tgt := 194) hx hb d_M_partials_183 (by decide) (fun c_15 => ?_) (fun c_15 => ?_)
        · have h := h.1 c_15
          refine lv_iload hx hb d_M_partials_194 (lv_at hl 3 rfl) ?_
          refine lv_iconst (v := 2) hx hb d_M_partials_196 (by decide) ?_
          refine lv_icmp_ne (tgt := 208) hx hb d_M_partials_197 (by decide) (fun c_16 => ?_) (fun c_16 => ?_)
          · have h := h.1 c_16
            refine lv_lload hx hb d_M_partials_208 (lv_at hl 0 rfl) ?_
            refine lv_lload hx hb d_M_partials_210 (lv_at hl 2 rfl) ?_
            refine lv_lor hx hb d_M_partials_212 ?_
            refine lv_lload hx hb d_M_partials_213 (lv_at hl 0 rfl) ?_
            refine x_ldc2 C0 wm_943 d_M_partials_215 ?_
            refine lv_lxor hx hb d_M_partials_218 ?_
            refine lv_lload hx hb d_M_partials_219 (lv_at hl 1 rfl) ?_
            refine lv_lor hx hb d_M_partials_221 ?_
            refine lv_land hx hb d_M_partials_222 ?_
            refine lv_topl (fun v7_17 e_v7_17 => ?_)
            have h := h v7_17 e_v7_17
            refine lv_lstore (lv' := [(7, .long v7_17), (14, .long r_14), (12, .long v12_13), (10, .long v10_11), (9, .int r_9), (0, .ref (am 0)), (1, .int x1), (2, .int x2), (3, .int x3), (4, .int x4), (5, .int x5), (6, .int x6)]) hx hb d_M_partials_223 hl (by decide) rfl (fun ls hl => ?_)
            refine lv_aload_n hx hb d_M_partials_225 rfl (lv_at hl 5 rfl) ?_
            refine x_get C0 hw 0 rfl rfl i_M 21 (by decide) wm_746 rfl rfl d_M_partials_226 ?_
            refine lv_bipush (v := 16) hx hb d_M_partials_229 (by decide) ?_
            refine lv_iload hx hb d_M_partials_231 (lv_at hl 10 rfl) ?_
            refine lv_imul hx hb d_M_partials_233 ?_
            refine lv_iload hx hb d_M_partials_234 (lv_at hl 11 rfl) ?_
            refine lv_iadd hx hb d_M_partials_236 ?_
            refine lv_lload hx hb d_M_partials_237 (lv_at hl 0 rfl) ?_
            obtain ⟨hi_18, h⟩ := h
            refine x_last C0 hw 11 rfl hi_18 (ws' := WM am ca M_clauses M_given M_end M_taped M_size M_at M_to M_sort M_worth M_faultKind M_faultPlace M_isTold M_nodes M_plain M_minus M_block M_left M_right M_pivot M_live M_needed M_label M_tape (vp_updL M_of (((16 : Int32) * x5) + x6).toNatClampNeg v7_17) M_kept M_had M_told M_first M_second M_node M_nodeVariable M_nodeLow M_nodeHigh M_wait) rfl d_M_partials_239 (fun H locs hw => ?_)
            refine lv_iinc (v := (x6 + 1)) (lv' := [(6, .int (x6 + 1)), (7, .long v7_17), (14, .long r_14), (12, .long v12_13), (10, .long v10_11), (9, .int r_9), (0, .ref (am 0)), (1, .int x1), (2, .int x2), (3, .int x3), (4, .int x4), (5, .int x5)]) hx hb d_M_partials_240 hl (k := 11) rfl rfl (by decide) rfl (fun ls hl => ?_)
            refine lv_goto (tgt := 43) hx hb d_M_partials_243 (by decide) ?_
            exact ih _ _ h hw (lv_sub hl [6, 7, 8, 9, 10, 11, 0] rfl) h246
          · have h := h.2 c_16
            refine lv_lload hx hb d_M_partials_200 (lv_at hl 2 rfl) ?_
            refine lv_lload hx hb d_M_partials_202 (lv_at hl 1 rfl) ?_
            refine lv_land hx hb d_M_partials_204 ?_
            refine lv_goto (tgt := 223) hx hb d_M_partials_205 (by decide) ?_
            refine lv_lstore (lv' := [(7, .long (v10_11 &&& v12_13)), (14, .long r_14), (12, .long v12_13), (10, .long v10_11), (9, .int r_9), (0, .ref (am 0)), (1, .int x1), (2, .int x2), (3, .int x3), (4, .int x4), (5, .int x5), (6, .int x6)]) hx hb d_M_partials_223 hl (by decide) rfl (fun ls hl => ?_)
            refine lv_aload_n hx hb d_M_partials_225 rfl (lv_at hl 5 rfl) ?_
            refine x_get C0 hw 0 rfl rfl i_M 21 (by decide) wm_746 rfl rfl d_M_partials_226 ?_
            refine lv_bipush (v := 16) hx hb d_M_partials_229 (by decide) ?_
            refine lv_iload hx hb d_M_partials_231 (lv_at hl 10 rfl) ?_
            refine lv_imul hx hb d_M_partials_233 ?_
            refine lv_iload hx hb d_M_partials_234 (lv_at hl 11 rfl) ?_
            refine lv_iadd hx hb d_M_partials_236 ?_
            refine lv_lload hx hb d_M_partials_237 (lv_at hl 0 rfl) ?_
            obtain ⟨hi_19, h⟩ := h
            refine x_last C0 hw 11 rfl hi_19 (ws' := WM am ca M_clauses M_given M_end M_taped M_size M_at M_to M_sort M_worth M_faultKind M_faultPlace M_isTold M_nodes M_plain M_minus M_block M_left M_right M_pivot M_live M_needed M_label M_tape (vp_updL M_of (((16 : Int32) * x5) + x6).toNatClampNeg (v10_11 &&& v12_13)) M_kept M_had M_told M_first M_second M_node M_nodeVariable M_nodeLow M_nodeHigh M_wait) rfl d_M_partials_239 (fun H locs hw => ?_)
            refine lv_iinc (v := (x6 + 1)) (lv' := [(6, .int (x6 + 1)), (7, .long (v10_11 &&& v12_13)), (14, .long r_14), (12, .long v12_13), (10, .long v10_11), (9, .int r_9), (0, .ref (am 0)), (1, .int x1), (2, .int x2), (3, .int x3), (4, .int x4), (5, .int x5)]) hx hb d_M_partials_240 hl (k := 11) rfl rfl (by decide) rfl (fun ls hl => ?_)
            refine lv_goto (tgt := 43) hx hb d_M_partials_243 (by decide) ?_
            exact ih _ _ h hw (lv_sub hl [6, 7, 8, 9, 10, 11, 0] rfl) h246
        · have h := h.2 c_15
          refine lv_lload hx hb d_M_partials_186 (lv_at hl 2 rfl) ?_
          refine lv_lload hx hb d_M_partials_188 (lv_at hl 1 rfl) ?_
          refine lv_lor hx hb d_M_partials_190 ?_
          refine lv_goto (tgt := 223) hx hb d_M_partials_191 (by decide) ?_
          refine lv_lstore (lv' := [(7, .long (v10_11 ||| v12_13)), (14, .long r_14), (12, .long v12_13), (10, .long v10_11), (9, .int r_9), (0, .ref (am 0)), (1, .int x1), (2, .int x2), (3, .int x3), (4, .int x4), (5, .int x5), (6, .int x6)]) hx hb d_M_partials_223 hl (by decide) rfl (fun ls hl => ?_)
          refine lv_aload_n hx hb d_M_partials_225 rfl (lv_at hl 5 rfl) ?_
          refine x_get C0 hw 0 rfl rfl i_M 21 (by decide) wm_746 rfl rfl d_M_partials_226 ?_
          refine lv_bipush (v := 16) hx hb d_M_partials_229 (by decide) ?_
          refine lv_iload hx hb d_M_partials_231 (lv_at hl 10 rfl) ?_
          refine lv_imul hx hb d_M_partials_233 ?_
          refine lv_iload hx hb d_M_partials_234 (lv_at hl 11 rfl) ?_
          refine lv_iadd hx hb d_M_partials_236 ?_
          refine lv_lload hx hb d_M_partials_237 (lv_at hl 0 rfl) ?_
          obtain ⟨hi_20, h⟩ := h
          refine x_last C0 hw 11 rfl hi_20 (ws' := WM am ca M_clauses M_given M_end M_taped M_size M_at M_to M_sort M_worth M_faultKind M_faultPlace M_isTold M_nodes M_plain M_minus M_block M_left M_right M_pivot M_live M_needed M_label M_tape (vp_updL M_of (((16 : Int32) * x5) + x6).toNatClampNeg (v10_11 ||| v12_13)) M_kept M_had M_told M_first M_second M_node M_nodeVariable M_nodeLow M_nodeHigh M_wait) rfl d_M_partials_239 (fun H locs hw => ?_)
          refine lv_iinc (v := (x6 + 1)) (lv' := [(6, .int (x6 + 1)), (7, .long (v10_11 ||| v12_13)), (14, .long r_14), (12, .long v12_13), (10, .long v10_11), (9, .int r_9), (0, .ref (am 0)), (1, .int x1), (2, .int x2), (3, .int x3), (4, .int x4), (5, .int x5)]) hx hb d_M_partials_240 hl (k := 11) rfl rfl (by decide) rfl (fun ls hl => ?_)
          refine lv_goto (tgt := 43) hx hb d_M_partials_243 (by decide) ?_
          exact ih _ _ h hw (lv_sub hl [6, 7, 8, 9, 10, 11, 0] rfl) h246
      · have h := h.2 c_8
        refine lv_aload_n hx hb d_M_partials_60 rfl (lv_at hl 0 rfl) ?_
        refine x_get C0 hw 0 rfl rfl i_M 2 (by decide) wm_727 rfl rfl d_M_partials_61 ?_
        refine lv_iload hx hb d_M_partials_64 (lv_at hl 5 rfl) ?_
        refine x_iald C0 hw 3 rfl hi_7 d_M_partials_66 ?_
        refine lv_iload_n hx hb d_M_partials_67 rfl (lv_at hl 1 rfl) ?_
        refine lv_icmp_gt (tgt := 87) hx hb d_M_partials_68 (by decide) (fun c_21 => ?_) (fun c_21 => ?_)
        · have h := h.1 c_21
          refine lv_aload_n hx hb d_M_partials_87 rfl (lv_at hl 0 rfl) ?_
          refine lv_iload hx hb d_M_partials_88 (lv_at hl 5 rfl) ?_
          refine lv_iload hx hb d_M_partials_90 (lv_at hl 6 rfl) ?_
          refine lv_iconst (v := 1) hx hb d_M_partials_92 (by decide) ?_
          refine lv_iload_n hx hb d_M_partials_93 rfl (lv_at hl 3 rfl) ?_
          refine lv_iload hx hb d_M_partials_94 (lv_at hl 4 rfl) ?_
          refine lv_iload_n hx hb d_M_partials_96 rfl (lv_at hl 2 rfl) ?_
          refine x_callVl C0 hw hl (c_M_sum h) g_M_sum wm_926 ⟨wm_45, wm_928⟩ 0 rfl rfl rfl (As := [.int x5, .int x6, .int (1 : Int32), .int x3, .int x4, .int x2]) (rest := []) rfl rfl (Nat.le_of_ble_eq_true rfl) ⟨rfl, rfl⟩ ⟨Nat.le_of_ble_eq_true rfl, Nat.le_of_ble_eq_true rfl⟩ ⟨Nat.le_of_ble_eq_true rfl, Nat.le_of_ble_eq_true rfl⟩ d_M_partials_97 (fun r_22 u H locs h hw => ?_)
          refine x_ldc2 C0 wm_943 d_M_partials_100 ?_
          refine lv_lxor hx hb d_M_partials_103 ?_
          refine lv_lstore (lv' := [(7, .long (r_22 ^^^ (-1 : Int64))), (0, .ref (am 0)), (1, .int x1), (2, .int x2), (3, .int x3), (4, .int x4), (5, .int x5), (6, .int x6)]) hx hb d_M_partials_104 hl (by decide) rfl (fun ls hl => ?_)
          refine lv_goto (tgt := 225) hx hb d_M_partials_106 (by decide) ?_
          refine lv_aload_n hx hb d_M_partials_225 rfl (lv_at hl 1 rfl) ?_
          refine x_get C0 hw 0 rfl rfl i_M 21 (by decide) wm_746 rfl rfl d_M_partials_226 ?_
          refine lv_bipush (v := 16) hx hb d_M_partials_229 (by decide) ?_
          refine lv_iload hx hb d_M_partials_231 (lv_at hl 6 rfl) ?_
          refine lv_imul hx hb d_M_partials_233 ?_
          refine lv_iload hx hb d_M_partials_234 (lv_at hl 7 rfl) ?_
          refine lv_iadd hx hb d_M_partials_236 ?_
          refine lv_lload hx hb d_M_partials_237 (lv_at hl 0 rfl) ?_
          obtain ⟨hi_23, h⟩ := h
          refine x_last C0 hw 11 rfl hi_23 (ws' := WM am ca M_clauses M_given M_end M_taped M_size M_at M_to M_sort M_worth M_faultKind M_faultPlace M_isTold M_nodes M_plain M_minus M_block M_left M_right M_pivot M_live M_needed M_label M_tape (vp_updL M_of (((16 : Int32) * x5) + x6).toNatClampNeg (r_22 ^^^ (-1 : Int64))) M_kept M_had M_told M_first M_second M_node M_nodeVariable M_nodeLow M_nodeHigh M_wait) rfl d_M_partials_239 (fun H locs hw => ?_)
          refine lv_iinc (v := (x6 + 1)) (lv' := [(6, .int (x6 + 1)), (7, .long (r_22 ^^^ (-1 : Int64))), (0, .ref (am 0)), (1, .int x1), (2, .int x2), (3, .int x3), (4, .int x4), (5, .int x5)]) hx hb d_M_partials_240 hl (k := 7) rfl rfl (by decide) rfl (fun ls hl => ?_)
          refine lv_goto (tgt := 43) hx hb d_M_partials_243 (by decide) ?_
          exact ih _ _ h hw (lv_sub hl [2, 3, 4, 5, 6, 7, 0] rfl) h246
        · have h := h.2 c_21
          refine lv_aload_n hx hb d_M_partials_71 rfl (lv_at hl 0 rfl) ?_
          refine lv_iload hx hb d_M_partials_72 (lv_at hl 5 rfl) ?_
          refine lv_iload hx hb d_M_partials_74 (lv_at hl 6 rfl) ?_
          refine lv_iconst (v := 2) hx hb d_M_partials_76 (by decide) ?_
          refine lv_iload_n hx hb d_M_partials_77 rfl (lv_at hl 3 rfl) ?_
          refine lv_iload hx hb d_M_partials_78 (lv_at hl 4 rfl) ?_
          refine lv_iload_n hx hb d_M_partials_80 rfl (lv_at hl 2 rfl) ?_
          refine x_callVl C0 hw hl (c_M_sum h) g_M_sum wm_926 ⟨wm_45, wm_928⟩ 0 rfl rfl rfl (As := [.int x5, .int x6, .int (2 : Int32), .int x3, .int x4, .int x2]) (rest := []) rfl rfl (Nat.le_of_ble_eq_true rfl) ⟨rfl, rfl⟩ ⟨Nat.le_of_ble_eq_true rfl, Nat.le_of_ble_eq_true rfl⟩ ⟨Nat.le_of_ble_eq_true rfl, Nat.le_of_ble_eq_true rfl⟩ d_M_partials_81 (fun r_24 u H locs h hw => ?_)
          refine lv_goto (tgt := 104) hx hb d_M_partials_84 (by decide) ?_
          refine lv_lstore (lv' := [(7, .long r_24), (0, .ref (am 0)), (1, .int x1), (2, .int x2), (3, .int x3), (4, .int x4), (5, .int x5), (6, .int x6)]) hx hb d_M_partials_104 hl (by decide) rfl (fun ls hl => ?_)
          refine lv_goto (tgt := 225) hx hb d_M_partials_106 (by decide) ?_
          refine lv_aload_n hx hb d_M_partials_225 rfl (lv_at hl 1 rfl) ?_
          refine x_get C0 hw 0 rfl rfl i_M 21 (by decide) wm_746 rfl rfl d_M_partials_226 ?_
          refine lv_bipush (v := 16) hx hb d_M_partials_229 (by decide) ?_
          refine lv_iload hx hb d_M_partials_231 (lv_at hl 6 rfl) ?_
          refine lv_imul hx hb d_M_partials_233 ?_
          refine lv_iload hx hb d_M_partials_234 (lv_at hl 7 rfl) ?_
          refine lv_iadd hx hb d_M_partials_236 ?_
          refine lv_lload hx hb d_M_partials_237 (lv_at hl 0 rfl) ?_
          obtain ⟨hi_25, h⟩ := h
          refine x_last C0 hw 11 rfl hi_25 (ws' := WM am ca M_clauses M_given M_end M_taped M_size M_at M_to M_sort M_worth M_faultKind M_faultPlace M_isTold M_nodes M_plain M_minus M_block M_left M_right M_pivot M_live M_needed M_label M_tape (vp_updL M_of (((16 : Int32) * x5) + x6).toNatClampNeg r_24) M_kept M_had M_told M_first M_second M_node M_nodeVariable M_nodeLow M_nodeHigh M_wait) rfl d_M_partials_239 (fun H locs hw => ?_)
          refine lv_iinc (v := (x6 + 1)) (lv' := [(6, .int (x6 + 1)), (7, .long r_24), (0, .ref (am 0)), (1, .int x1), (2, .int x2), (3, .int x3), (4, .int x4), (5, .int x5)]) hx hb d_M_partials_240 hl (k := 7) rfl rfl (by decide) rfl (fun ls hl => ?_)
          refine lv_goto (tgt := 43) hx hb d_M_partials_243 (by decide) ?_
          exact ih _ _ h hw (lv_sub hl [2, 3, 4, 5, 6, 7, 0] rfl) h246
set_option maxHeartbeats 4000000 in
set_option maxRecDepth 100000 in
theorem b_M_partials_L18 {p : Program} {l : Launch} {e : Env} {s : State} {m : MethodId} {args : Array Value} {below : List Frame} {meth : Method} {c : Code} {D : va_G} {ca : Nat → ClassId} {tp : Nat} {A : Nat → Prop} {am : Nat → Nat} {M_clauses : Int32} {M_given : Int32} {M_end : Int32} {M_taped : Int32} {M_size : Int32} {M_at : Int32} {M_to : Int32} {M_sort : Int32} {M_worth : Int32} {M_faultKind : Int32} {M_faultPlace : Int32} {M_isTold : Int32} {M_nodes : Int32} {M_plain : Nat → Int32} {M_minus : Nat → Int32} {M_block : Nat → Int32} {M_left : Nat → Int32} {M_right : Nat → Int32} {M_pivot : Nat → Int32} {M_live : Nat → Int32} {M_needed : Nat → Int32} {M_label : Nat → Int32} {M_tape : Nat → Int32} {M_kept : Nat → Int64} {M_had : Nat → Int32} {M_told : Nat → Int64} {M_first : Nat → Int64} {M_second : Nat → Int64} {M_node : Nat → Int64} {M_nodeVariable : Nat → Int32} {M_nodeLow : Nat → Int32} {M_nodeHigh : Nat → Int32} {M_wait : Nat → Int32} {x1 : Int32} {x2 : Int32} {x3 : Int32} {x4 : Int32} {k : (Nat → Int64) → Prop}  (C0 : CX p s m args meth c b_M_partials 16 none R_M "partials" D ca tp A) :
    ∀ (n : Nat) (x5 : Int32) (M_of : Nat → Int64) {H : Heap} {locs : List Loc} {ls : Array Slot}, p_M_partials_L18 M_clauses M_plain M_minus M_block M_left M_right M_pivot M_needed M_label x1 x2 x3 x4 k n x5 M_of → WH D A s (WM am ca M_clauses M_given M_end M_taped M_size M_at M_to M_sort M_worth M_faultKind M_faultPlace M_isTold M_nodes M_plain M_minus M_block M_left M_right M_pivot M_live M_needed M_label M_tape M_of M_kept M_had M_told M_first M_second M_node M_nodeVariable M_nodeLow M_nodeHigh M_wait) H locs → lv_has ls 16 [(0, .ref (am 0)), (1, .int x1), (2, .int x2), (3, .int x3), (4, .int x4), (5, .int x5)] →
      W p l e rm_M_partials s m args below meth c H locs 0 0 (QV D A below args s (fun (u : (Nat → Int64)) => k u) (fun (u : (Nat → Int64)) => WM am ca M_clauses M_given M_end M_taped M_size M_at M_to M_sort M_worth M_faultKind M_faultPlace M_isTold M_nodes M_plain M_minus M_block M_left M_right M_pivot M_live M_needed M_label M_tape u M_kept M_had M_told M_first M_second M_node M_nodeVariable M_nodeLow M_nodeHigh M_wait) 0 0) (F0 m 18 ls []) := by
  have hx := C0.1
  have hb := C0.2.1
  intro n
  induction n with
  | zero =>
    intro x5 M_of H locs ls h
    exact False.elim h
  | succ n ih =>
    intro x5 M_of H locs ls h hw hl
    unfold p_M_partials_L18 at h
    refine lv_iload hx hb d_M_partials_18 (lv_at hl 5 rfl) ?_
    refine lv_aload_n hx hb d_M_partials_20 rfl (lv_at hl 0 rfl) ?_
    refine x_get C0 hw 0 rfl rfl i_M 8 (by decide) wm_733 rfl rfl d_M_partials_21 ?_
    refine lv_icmp_gt (tgt := 252) hx hb d_M_partials_24 (by decide) (fun c_3 => ?_) (fun c_3 => ?_)
    · have h := h.1 c_3
      exact x_vret C0 hw M_of h rfl d_M_partials_252
    · have h := h.2 c_3
      refine lv_aload_n hx hb d_M_partials_27 rfl (lv_at hl 0 rfl) ?_
      refine x_get C0 hw 0 rfl rfl i_M 7 (by decide) wm_732 rfl rfl d_M_partials_28 ?_
      refine lv_iload hx hb d_M_partials_31 (lv_at hl 5 rfl) ?_
      obtain ⟨hi_4, h⟩ := h
      refine x_zald C0 hw 8 rfl hi_4 d_M_partials_33 ?_
      refine lv_if_ne (tgt := 40) hx hb d_M_partials_34 (by decide) (fun c_5 => ?_) (fun c_5 => ?_)
      · have h := h.1 c_5
        refine lv_iconst (v := 0) hx hb d_M_partials_40 (by decide) ?_
        refine lv_istore (lv' := [(6, .int (0 : Int32)), (0, .ref (am 0)), (1, .int x1), (2, .int x2), (3, .int x3), (4, .int x4), (5, .int x5)]) hx hb d_M_partials_41 hl (by decide) rfl (fun ls hl => ?_)
        obtain ⟨j_27, h⟩ := h
        refine b_M_partials_L43 C0 _ _ _ h hw (lv_sub hl [1, 2, 3, 4, 5, 6, 0] rfl) (fun M_of_26 H locs ls h hw hl => ?_)
        refine lv_iinc (v := (x5 + 1)) (lv' := [(5, .int (x5 + 1)), (0, .ref (am 0)), (1, .int x1), (2, .int x2), (3, .int x3), (4, .int x4)]) hx hb d_M_partials_246 hl (k := 5) rfl rfl (by decide) rfl (fun ls hl => ?_)
        refine lv_goto (tgt := 18) hx hb d_M_partials_249 (by decide) ?_
        exact ih _ _ h hw (lv_sub hl [1, 2, 3, 4, 5, 0] rfl)
      · have h := h.2 c_5
        refine lv_goto (tgt := 246) hx hb d_M_partials_37 (by decide) ?_
        refine lv_iinc (v := (x5 + 1)) (lv' := [(5, .int (x5 + 1)), (0, .ref (am 0)), (1, .int x1), (2, .int x2), (3, .int x3), (4, .int x4)]) hx hb d_M_partials_246 hl (k := 5) rfl rfl (by decide) rfl (fun ls hl => ?_)
        refine lv_goto (tgt := 18) hx hb d_M_partials_249 (by decide) ?_
        exact ih _ _ h hw (lv_sub hl [1, 2, 3, 4, 5, 0] rfl)
set_option maxHeartbeats 4000000 in
set_option maxRecDepth 100000 in
theorem c_M_partials {l : Launch} {D : va_G} {ca : Nat → ClassId} {tp : Nat} {am : Nat → Nat} {M_clauses : Int32} {M_given : Int32} {M_end : Int32} {M_taped : Int32} {M_size : Int32} {M_at : Int32} {M_to : Int32} {M_sort : Int32} {M_worth : Int32} {M_faultKind : Int32} {M_faultPlace : Int32} {M_isTold : Int32} {M_nodes : Int32} {M_plain : Nat → Int32} {M_minus : Nat → Int32} {M_block : Nat → Int32} {M_left : Nat → Int32} {M_right : Nat → Int32} {M_pivot : Nat → Int32} {M_live : Nat → Int32} {M_needed : Nat → Int32} {M_label : Nat → Int32} {M_tape : Nat → Int32} {M_of : Nat → Int64} {M_kept : Nat → Int64} {M_had : Nat → Int32} {M_told : Nat → Int64} {M_first : Nat → Int64} {M_second : Nat → Int64} {M_node : Nat → Int64} {M_nodeVariable : Nat → Int32} {M_nodeLow : Nat → Int32} {M_nodeHigh : Nat → Int32} {M_wait : Nat → Int32} {x1 : Int32} {x2 : Int32} {k : (Nat → Int64) → Prop} (h : p_M_partials M_clauses M_plain M_minus M_block M_left M_right M_pivot M_needed M_label M_of x1 x2 k) :
    MTv l y_M_partials b_M_partials 16 none rm_M_partials D ca tp [.ref (am 0), .int x1, .int x2] (WM am ca M_clauses M_given M_end M_taped M_size M_at M_to M_sort M_worth M_faultKind M_faultPlace M_isTold M_nodes M_plain M_minus M_block M_left M_right M_pivot M_live M_needed M_label M_tape M_of M_kept M_had M_told M_first M_second M_node M_nodeVariable M_nodeLow M_nodeHigh M_wait)
      (fun (u : (Nat → Int64)) => k u)
      (fun (u : (Nat → Int64)) => WM am ca M_clauses M_given M_end M_taped M_size M_at M_to M_sort M_worth M_faultKind M_faultPlace M_isTold M_nodes M_plain M_minus M_block M_left M_right M_pivot M_live M_needed M_label M_tape u M_kept M_had M_told M_first M_second M_node M_nodeVariable M_nodeLow M_nodeHigh M_wait) 0 0 := by
  refine x_entryv (own := R_M) (nm := "partials") (by decide) rfl rfl (Nat.le_of_ble_eq_true rfl) (fun p e s m below meth c A ls C0 hw hl => ?_)
  have hx := C0.1
  have hb := C0.2.1
  have hl : lv_has ls 16 [(0, .ref (am 0)), (1, .int x1), (2, .int x2)] := hl
  unfold p_M_partials at h
  refine lv_aload_n hx hb d_M_partials_0 rfl (lv_at hl 0 rfl) ?_
  refine lv_iconst (v := 0) hx hb d_M_partials_1 (by decide) ?_
  refine lv_iload_n hx hb d_M_partials_2 rfl (lv_at hl 1 rfl) ?_
  refine x_callVi C0 hw hl (c_M_variablesOf h) g_M_variablesOf wm_914 ⟨wm_43, wm_916⟩ 0 rfl rfl rfl (As := [.int (0 : Int32), .int x1]) (rest := []) rfl rfl (Nat.le_of_ble_eq_true rfl) ⟨rfl, rfl⟩ ⟨Nat.le_of_ble_eq_true rfl, Nat.le_of_ble_eq_true rfl⟩ ⟨Nat.le_of_ble_eq_true rfl, Nat.le_of_ble_eq_true rfl⟩ d_M_partials_3 (fun r_1 u H locs h hw => ?_)
  refine lv_istore_n (lv' := [(3, .int r_1), (0, .ref (am 0)), (1, .int x1), (2, .int x2)]) hx hb d_M_partials_6 rfl hl (by decide) rfl (fun ls hl => ?_)
  refine lv_aload_n hx hb d_M_partials_7 rfl (lv_at hl 1 rfl) ?_
  refine lv_iconst (v := 1) hx hb d_M_partials_8 (by decide) ?_
  refine lv_iload_n hx hb d_M_partials_9 rfl (lv_at hl 2 rfl) ?_
  refine x_callVi C0 hw hl (c_M_variablesOf h) g_M_variablesOf wm_914 ⟨wm_43, wm_916⟩ 0 rfl rfl rfl (As := [.int (1 : Int32), .int x1]) (rest := []) rfl rfl (Nat.le_of_ble_eq_true rfl) ⟨rfl, rfl⟩ ⟨Nat.le_of_ble_eq_true rfl, Nat.le_of_ble_eq_true rfl⟩ ⟨Nat.le_of_ble_eq_true rfl, Nat.le_of_ble_eq_true rfl⟩ d_M_partials_10 (fun r_2 u H locs h hw => ?_)
  refine lv_istore (lv' := [(4, .int r_2), (3, .int r_1), (0, .ref (am 0)), (1, .int x1), (2, .int x2)]) hx hb d_M_partials_13 hl (by decide) rfl (fun ls hl => ?_)
  refine lv_iconst (v := 1) hx hb d_M_partials_15 (by decide) ?_
  refine lv_istore (lv' := [(5, .int (1 : Int32)), (4, .int r_2), (3, .int r_1), (0, .ref (am 0)), (1, .int x1), (2, .int x2)]) hx hb d_M_partials_16 hl (by decide) rfl (fun ls hl => ?_)
  obtain ⟨j_28, h⟩ := h
  refine b_M_partials_L18 C0 _ _ _ h hw (lv_sub hl [3, 4, 5, 2, 1, 0] rfl)
theorem g_M_product : GY y_M_product b_M_product 7 (some .long) 3 := ⟨wm_990, wm_62, by decide +kernel, by decide +kernel, by decide +kernel⟩
def p_M_product_L8 (M_clauses : Int32) (M_plain : Nat → Int32) (M_minus : Nat → Int32) (M_block : Nat → Int32) (M_label : Nat → Int32) (x1 : Int32) (x2 : Int32) (x3 : Int32) (k : Int64 → Prop) : Nat → Int64 → Int32 → Prop
  | 0, _, _ => False
  | n + 1, x4, x6 =>
    ((M_clauses < x6 → (k x4)) ∧ (¬ M_clauses < x6 → (vp_in x6 202 ∧ (((M_block x6.toNatClampNeg) < x1 → (p_M_product_L8 M_clauses M_plain M_minus M_block M_label x1 x2 x3 k n x4 (x6 + 1))) ∧ (¬ (M_block x6.toNatClampNeg) < x1 → ((x2 < (M_block x6.toNatClampNeg) → (p_M_product_L8 M_clauses M_plain M_minus M_block M_label x1 x2 x3 k n x4 (x6 + 1))) ∧ (¬ x2 < (M_block x6.toNatClampNeg) → (((M_block x6.toNatClampNeg) ≤ 0 → (p_M_product_L8 M_clauses M_plain M_minus M_block M_label x1 x2 x3 k n x4 (x6 + 1))) ∧ (¬ (M_block x6.toNatClampNeg) ≤ 0 → (p_M_sum M_plain M_minus M_label x6 x3 (0 : Int32) (0 : Int32) (0 : Int32) (0 : Int32) (fun (r_6 : Int64) => (p_M_product_L8 M_clauses M_plain M_minus M_block M_label x1 x2 x3 k n (x4 &&& r_6) (x6 + 1)))))))))))))
def p_M_product (M_clauses : Int32) (M_plain : Nat → Int32) (M_minus : Nat → Int32) (M_block : Nat → Int32) (M_label : Nat → Int32) (x1 : Int32) (x2 : Int32) (x3 : Int32) (k : Int64 → Prop) : Prop :=
  (∃ j_7, p_M_product_L8 M_clauses M_plain M_minus M_block M_label x1 x2 x3 k j_7 (-1 : Int64) (1 : Int32))
abbrev rm_M_product : Room := { frames := 2, cells := 0, slots := 0, locals := 54 }
set_option maxHeartbeats 4000000 in
set_option maxRecDepth 100000 in
theorem b_M_product_L8 {p : Program} {l : Launch} {e : Env} {s : State} {m : MethodId} {args : Array Value} {below : List Frame} {meth : Method} {c : Code} {D : va_G} {ca : Nat → ClassId} {tp : Nat} {A : Nat → Prop} {am : Nat → Nat} {M_clauses : Int32} {M_given : Int32} {M_end : Int32} {M_taped : Int32} {M_size : Int32} {M_at : Int32} {M_to : Int32} {M_sort : Int32} {M_worth : Int32} {M_faultKind : Int32} {M_faultPlace : Int32} {M_isTold : Int32} {M_nodes : Int32} {M_plain : Nat → Int32} {M_minus : Nat → Int32} {M_block : Nat → Int32} {M_left : Nat → Int32} {M_right : Nat → Int32} {M_pivot : Nat → Int32} {M_live : Nat → Int32} {M_needed : Nat → Int32} {M_label : Nat → Int32} {M_tape : Nat → Int32} {M_of : Nat → Int64} {M_kept : Nat → Int64} {M_had : Nat → Int32} {M_told : Nat → Int64} {M_first : Nat → Int64} {M_second : Nat → Int64} {M_node : Nat → Int64} {M_nodeVariable : Nat → Int32} {M_nodeLow : Nat → Int32} {M_nodeHigh : Nat → Int32} {M_wait : Nat → Int32} {x1 : Int32} {x2 : Int32} {x3 : Int32} {k : Int64 → Prop}  (C0 : CX p s m args meth c b_M_product 7 (some .long) R_M "product" D ca tp A) :
    ∀ (n : Nat) (x4 : Int64) (x6 : Int32) {H : Heap} {locs : List Loc} {ls : Array Slot}, p_M_product_L8 M_clauses M_plain M_minus M_block M_label x1 x2 x3 k n x4 x6 → WH D A s (WM am ca M_clauses M_given M_end M_taped M_size M_at M_to M_sort M_worth M_faultKind M_faultPlace M_isTold M_nodes M_plain M_minus M_block M_left M_right M_pivot M_live M_needed M_label M_tape M_of M_kept M_had M_told M_first M_second M_node M_nodeVariable M_nodeLow M_nodeHigh M_wait) H locs → lv_has ls 7 [(0, .ref (am 0)), (1, .int x1), (2, .int x2), (3, .int x3), (4, .long x4), (6, .int x6)] →
      W p l e rm_M_product s m args below meth c H locs 0 0 (QL D A below args s (fun r (_ : Unit) => k r) (fun (_ : Unit) => WM am ca M_clauses M_given M_end M_taped M_size M_at M_to M_sort M_worth M_faultKind M_faultPlace M_isTold M_nodes M_plain M_minus M_block M_left M_right M_pivot M_live M_needed M_label M_tape M_of M_kept M_had M_told M_first M_second M_node M_nodeVariable M_nodeLow M_nodeHigh M_wait) 0 0) (F0 m 8 ls []) := by
  have hx := C0.1
  have hb := C0.2.1
  intro n
  induction n with
  | zero =>
    intro x4 x6 H locs ls h
    exact False.elim h
  | succ n ih =>
    intro x4 x6 H locs ls h hw hl
    unfold p_M_product_L8 at h
    refine lv_iload hx hb d_M_product_8 (lv_at hl 5 rfl) ?_
    refine lv_aload_n hx hb d_M_product_10 rfl (lv_at hl 0 rfl) ?_
    refine x_get C0 hw 0 rfl rfl i_M 8 (by decide) wm_733 rfl rfl d_M_product_11 ?_
    refine lv_icmp_gt (tgt := 71) hx hb d_M_product_14 (by decide) (fun c_1 => ?_) (fun c_1 => ?_)
    · have h := h.1 c_1
      refine lv_lload hx hb d_M_product_71 (lv_at hl 4 rfl) ?_
      exact x_lret C0 hw () h rfl d_M_product_73
    · have h := h.2 c_1
      refine lv_aload_n hx hb d_M_product_17 rfl (lv_at hl 0 rfl) ?_
      refine x_get C0 hw 0 rfl rfl i_M 2 (by decide) wm_727 rfl rfl d_M_product_18 ?_
      refine lv_iload hx hb d_M_product_21 (lv_at hl 5 rfl) ?_
      obtain ⟨hi_2, h⟩ := h
      refine x_iald C0 hw 3 rfl hi_2 d_M_product_23 ?_
      refine lv_iload_n hx hb d_M_product_24 rfl (lv_at hl 1 rfl) ?_
      refine lv_icmp_lt (tgt := 65) hx hb d_M_product_25 (by decide) (fun c_3 => ?_) (fun c_3 => ?_)
      · have h := h.1 c_3
        refine lv_iinc (v := (x6 + 1)) (lv' := [(6, .int (x6 + 1)), (0, .ref (am 0)), (1, .int x1), (2, .int x2), (3, .int x3), (4, .long x4)]) hx hb d_M_product_65 hl (k := 5) rfl rfl (by decide) rfl (fun ls hl => ?_)
        refine lv_goto (tgt := 8) hx hb d_M_product_68 (by decide) ?_
        exact ih _ _ h hw (lv_sub hl [1, 2, 3, 4, 5, 0] rfl)
      · have h := h.2 c_3
        refine lv_aload_n hx hb d_M_product_28 rfl (lv_at hl 0 rfl) ?_
        refine x_get C0 hw 0 rfl rfl i_M 2 (by decide) wm_727 rfl rfl d_M_product_29 ?_
        refine lv_iload hx hb d_M_product_32 (lv_at hl 5 rfl) ?_
        refine x_iald C0 hw 3 rfl hi_2 d_M_product_34 ?_
        refine lv_iload_n hx hb d_M_product_35 rfl (lv_at hl 2 rfl) ?_
        refine lv_icmp_gt (tgt := 65) hx hb d_M_product_36 (by decide) (fun c_4 => ?_) (fun c_4 => ?_)
        · have h := h.1 c_4
          refine lv_iinc (v := (x6 + 1)) (lv' := [(6, .int (x6 + 1)), (0, .ref (am 0)), (1, .int x1), (2, .int x2), (3, .int x3), (4, .long x4)]) hx hb d_M_product_65 hl (k := 5) rfl rfl (by decide) rfl (fun ls hl => ?_)
          refine lv_goto (tgt := 8) hx hb d_M_product_68 (by decide) ?_
          exact ih _ _ h hw (lv_sub hl [1, 2, 3, 4, 5, 0] rfl)
        · have h := h.2 c_4
          refine lv_aload_n hx hb d_M_product_39 rfl (lv_at hl 0 rfl) ?_
          refine x_get C0 hw 0 rfl rfl i_M 2 (by decide) wm_727 rfl rfl d_M_product_40 ?_
          refine lv_iload hx hb d_M_product_43 (lv_at hl 5 rfl) ?_
          refine x_iald C0 hw 3 rfl hi_2 d_M_product_45 ?_
          refine lv_if_le (tgt := 65) hx hb d_M_product_46 (by decide) (fun c_5 => ?_) (fun c_5 => ?_)
          · have h := h.1 c_5
            refine lv_iinc (v := (x6 + 1)) (lv' := [(6, .int (x6 + 1)), (0, .ref (am 0)), (1, .int x1), (2, .int x2), (3, .int x3), (4, .long x4)]) hx hb d_M_product_65 hl (k := 5) rfl rfl (by decide) rfl (fun ls hl => ?_)
            refine lv_goto (tgt := 8) hx hb d_M_product_68 (by decide) ?_
            exact ih _ _ h hw (lv_sub hl [1, 2, 3, 4, 5, 0] rfl)
          · have h := h.2 c_5
            refine lv_lload hx hb d_M_product_49 (lv_at hl 4 rfl) ?_
            refine lv_aload_n hx hb d_M_product_51 rfl (lv_at hl 0 rfl) ?_
            refine lv_iload hx hb d_M_product_52 (lv_at hl 5 rfl) ?_
            refine lv_iload_n hx hb d_M_product_54 rfl (lv_at hl 3 rfl) ?_
            refine lv_iconst (v := 0) hx hb d_M_product_55 (by decide) ?_
            refine lv_iconst (v := 0) hx hb d_M_product_56 (by decide) ?_
            refine lv_iconst (v := 0) hx hb d_M_product_57 (by decide) ?_
            refine lv_iconst (v := 0) hx hb d_M_product_58 (by decide) ?_
            refine x_callVl C0 hw hl (c_M_sum h) g_M_sum wm_926 ⟨wm_45, wm_928⟩ 0 rfl rfl rfl (As := [.int x6, .int x3, .int (0 : Int32), .int (0 : Int32), .int (0 : Int32), .int (0 : Int32)]) (rest := [.long x4]) rfl rfl (Nat.le_of_ble_eq_true rfl) ⟨rfl, rfl⟩ ⟨Nat.le_of_ble_eq_true rfl, Nat.le_of_ble_eq_true rfl⟩ ⟨Nat.le_of_ble_eq_true rfl, Nat.le_of_ble_eq_true rfl⟩ d_M_product_59 (fun r_6 u H locs h hw => ?_)
            refine lv_land hx hb d_M_product_62 ?_
            refine lv_lstore (lv' := [(4, .long (x4 &&& r_6)), (0, .ref (am 0)), (1, .int x1), (2, .int x2), (3, .int x3), (6, .int x6)]) hx hb d_M_product_63 hl (by decide) rfl (fun ls hl => ?_)
            refine lv_iinc (v := (x6 + 1)) (lv' := [(6, .int (x6 + 1)), (4, .long (x4 &&& r_6)), (0, .ref (am 0)), (1, .int x1), (2, .int x2), (3, .int x3)]) hx hb d_M_product_65 hl (k := 5) rfl rfl (by decide) rfl (fun ls hl => ?_)
            refine lv_goto (tgt := 8) hx hb d_M_product_68 (by decide) ?_
            exact ih _ _ h hw (lv_sub hl [2, 3, 4, 5, 1, 0] rfl)
set_option maxHeartbeats 4000000 in
set_option maxRecDepth 100000 in
theorem c_M_product {l : Launch} {D : va_G} {ca : Nat → ClassId} {tp : Nat} {am : Nat → Nat} {M_clauses : Int32} {M_given : Int32} {M_end : Int32} {M_taped : Int32} {M_size : Int32} {M_at : Int32} {M_to : Int32} {M_sort : Int32} {M_worth : Int32} {M_faultKind : Int32} {M_faultPlace : Int32} {M_isTold : Int32} {M_nodes : Int32} {M_plain : Nat → Int32} {M_minus : Nat → Int32} {M_block : Nat → Int32} {M_left : Nat → Int32} {M_right : Nat → Int32} {M_pivot : Nat → Int32} {M_live : Nat → Int32} {M_needed : Nat → Int32} {M_label : Nat → Int32} {M_tape : Nat → Int32} {M_of : Nat → Int64} {M_kept : Nat → Int64} {M_had : Nat → Int32} {M_told : Nat → Int64} {M_first : Nat → Int64} {M_second : Nat → Int64} {M_node : Nat → Int64} {M_nodeVariable : Nat → Int32} {M_nodeLow : Nat → Int32} {M_nodeHigh : Nat → Int32} {M_wait : Nat → Int32} {x1 : Int32} {x2 : Int32} {x3 : Int32} {k : Int64 → Prop} (h : p_M_product M_clauses M_plain M_minus M_block M_label x1 x2 x3 k) :
    MTl l y_M_product b_M_product 7 (some .long) rm_M_product D ca tp [.ref (am 0), .int x1, .int x2, .int x3] (WM am ca M_clauses M_given M_end M_taped M_size M_at M_to M_sort M_worth M_faultKind M_faultPlace M_isTold M_nodes M_plain M_minus M_block M_left M_right M_pivot M_live M_needed M_label M_tape M_of M_kept M_had M_told M_first M_second M_node M_nodeVariable M_nodeLow M_nodeHigh M_wait)
      (fun r (_ : Unit) => k r)
      (fun (_ : Unit) => WM am ca M_clauses M_given M_end M_taped M_size M_at M_to M_sort M_worth M_faultKind M_faultPlace M_isTold M_nodes M_plain M_minus M_block M_left M_right M_pivot M_live M_needed M_label M_tape M_of M_kept M_had M_told M_first M_second M_node M_nodeVariable M_nodeLow M_nodeHigh M_wait) 0 0 := by
  refine x_entryl (own := R_M) (nm := "product") (by decide) rfl rfl (Nat.le_of_ble_eq_true rfl) (fun p e s m below meth c A ls C0 hw hl => ?_)
  have hx := C0.1
  have hb := C0.2.1
  have hl : lv_has ls 7 [(0, .ref (am 0)), (1, .int x1), (2, .int x2), (3, .int x3)] := hl
  unfold p_M_product at h
  refine x_ldc2 C0 wm_943 d_M_product_0 ?_
  refine lv_lstore (lv' := [(4, .long (-1 : Int64)), (0, .ref (am 0)), (1, .int x1), (2, .int x2), (3, .int x3)]) hx hb d_M_product_3 hl (by decide) rfl (fun ls hl => ?_)
  refine lv_iconst (v := 1) hx hb d_M_product_5 (by decide) ?_
  refine lv_istore (lv' := [(6, .int (1 : Int32)), (4, .long (-1 : Int64)), (0, .ref (am 0)), (1, .int x1), (2, .int x2), (3, .int x3)]) hx hb d_M_product_6 hl (by decide) rfl (fun ls hl => ?_)
  obtain ⟨j_7, h⟩ := h
  refine b_M_product_L8 C0 _ _ _ h hw (lv_sub hl [2, 3, 4, 5, 1, 0] rfl)
theorem g_M_value : GY y_M_value b_M_value 2 (some .int) 1 := ⟨wm_963, wm_62, by decide +kernel, by decide +kernel, by decide +kernel⟩
def p_M_value (M_isTold : Int32) (M_told : Nat → Int64) (x1 : Int32) (k : Int32 → Prop) : Prop :=
  ((M_isTold = 0 → (k (-1 : Int32))) ∧ (¬ M_isTold = 0 → (p_M_in x1 (0 : Int32) (1023 : Int32) (fun (r_2 : Int32) => ((r_2 = 0 → (k (-1 : Int32))) ∧ (¬ r_2 = 0 → (vp_in (x1 >>> ((6 : Int32) &&& 31)) 16 ∧ (k (((J_lshr (M_told (x1 >>> ((6 : Int32) &&& 31)).toNatClampNeg) (x1 &&& (63 : Int32))) &&& (1 : Int64)).toInt32)))))))))
abbrev rm_M_value : Room := { frames := 1, cells := 0, slots := 0, locals := 22 }
set_option maxHeartbeats 4000000 in
set_option maxRecDepth 100000 in
theorem c_M_value {l : Launch} {D : va_G} {ca : Nat → ClassId} {tp : Nat} {am : Nat → Nat} {M_clauses : Int32} {M_given : Int32} {M_end : Int32} {M_taped : Int32} {M_size : Int32} {M_at : Int32} {M_to : Int32} {M_sort : Int32} {M_worth : Int32} {M_faultKind : Int32} {M_faultPlace : Int32} {M_isTold : Int32} {M_nodes : Int32} {M_plain : Nat → Int32} {M_minus : Nat → Int32} {M_block : Nat → Int32} {M_left : Nat → Int32} {M_right : Nat → Int32} {M_pivot : Nat → Int32} {M_live : Nat → Int32} {M_needed : Nat → Int32} {M_label : Nat → Int32} {M_tape : Nat → Int32} {M_of : Nat → Int64} {M_kept : Nat → Int64} {M_had : Nat → Int32} {M_told : Nat → Int64} {M_first : Nat → Int64} {M_second : Nat → Int64} {M_node : Nat → Int64} {M_nodeVariable : Nat → Int32} {M_nodeLow : Nat → Int32} {M_nodeHigh : Nat → Int32} {M_wait : Nat → Int32} {x1 : Int32} {k : Int32 → Prop} (h : p_M_value M_isTold M_told x1 k) :
    MTi l y_M_value b_M_value 2 (some .int) rm_M_value D ca tp [.ref (am 0), .int x1] (WM am ca M_clauses M_given M_end M_taped M_size M_at M_to M_sort M_worth M_faultKind M_faultPlace M_isTold M_nodes M_plain M_minus M_block M_left M_right M_pivot M_live M_needed M_label M_tape M_of M_kept M_had M_told M_first M_second M_node M_nodeVariable M_nodeLow M_nodeHigh M_wait)
      (fun r (_ : Unit) => k r)
      (fun (_ : Unit) => WM am ca M_clauses M_given M_end M_taped M_size M_at M_to M_sort M_worth M_faultKind M_faultPlace M_isTold M_nodes M_plain M_minus M_block M_left M_right M_pivot M_live M_needed M_label M_tape M_of M_kept M_had M_told M_first M_second M_node M_nodeVariable M_nodeLow M_nodeHigh M_wait) 0 0 := by
  refine x_entryi (own := R_M) (nm := "value") (by decide) rfl rfl (Nat.le_of_ble_eq_true rfl) (fun p e s m below meth c A ls C0 hw hl => ?_)
  have hx := C0.1
  have hb := C0.2.1
  have hl : lv_has ls 2 [(0, .ref (am 0)), (1, .int x1)] := hl
  unfold p_M_value at h
  refine lv_aload_n hx hb d_M_value_0 rfl (lv_at hl 0 rfl) ?_
  refine x_get C0 hw 0 rfl rfl i_M 25 (by decide) wm_750 rfl rfl d_M_value_1 ?_
  refine lv_if_eq (tgt := 38) hx hb d_M_value_4 (by decide) (fun c_1 => ?_) (fun c_1 => ?_)
  · have h := h.1 c_1
    refine lv_iconst (v := -1) hx hb d_M_value_38 (by decide) ?_
    exact x_iret C0 hw () h rfl d_M_value_39
  · have h := h.2 c_1
    refine lv_iload_n hx hb d_M_value_7 rfl (lv_at hl 1 rfl) ?_
    refine lv_iconst (v := 0) hx hb d_M_value_8 (by decide) ?_
    refine lv_sipush (v := 1023) hx hb d_M_value_9 (by decide) ?_
    refine x_callSi C0 hw hl (c_M_in h) g_M_in wm_891 wm_892 (As := [.int x1, .int (0 : Int32), .int (1023 : Int32)]) (rest := []) rfl rfl (Nat.le_of_ble_eq_true rfl) ⟨rfl, rfl⟩ ⟨Nat.le_of_ble_eq_true rfl, Nat.le_of_ble_eq_true rfl⟩ ⟨Nat.le_of_ble_eq_true rfl, Nat.le_of_ble_eq_true rfl⟩ d_M_value_12 (fun r_2 u H locs h hw => ?_)
    refine lv_if_eq (tgt := 38) hx hb d_M_value_15 (by decide) (fun c_3 => ?_) (fun c_3 => ?_)
    · have h := h.1 c_3
      refine lv_iconst (v := -1) hx hb d_M_value_38 (by decide) ?_
      exact x_iret C0 hw () h rfl d_M_value_39
    · have h := h.2 c_3
      refine lv_aload_n hx hb d_M_value_18 rfl (lv_at hl 0 rfl) ?_
      refine x_get C0 hw 0 rfl rfl i_M 24 (by decide) wm_749 rfl rfl d_M_value_19 ?_
      refine lv_iload_n hx hb d_M_value_22 rfl (lv_at hl 1 rfl) ?_
      refine lv_bipush (v := 6) hx hb d_M_value_23 (by decide) ?_
      refine lv_ishr hx hb d_M_value_25 ?_
      obtain ⟨hi_4, h⟩ := h
      refine x_lald C0 hw 14 rfl hi_4 d_M_value_26 ?_
      refine lv_iload_n hx hb d_M_value_27 rfl (lv_at hl 1 rfl) ?_
      refine lv_bipush (v := 63) hx hb d_M_value_28 (by decide) ?_
      refine lv_iand hx hb d_M_value_30 ?_
      refine lv_lshr (v := (J_lshr (M_told (x1 >>> ((6 : Int32) &&& 31)).toNatClampNeg) (x1 &&& (63 : Int32)))) hx hb d_M_value_31 rfl ?_
      refine lv_lconst (v := 1) hx hb d_M_value_32 (by decide) ?_
      refine lv_land hx hb d_M_value_33 ?_
      refine lv_l2i (v := (((J_lshr (M_told (x1 >>> ((6 : Int32) &&& 31)).toNatClampNeg) (x1 &&& (63 : Int32))) &&& (1 : Int64)).toInt32)) hx hb d_M_value_34 rfl ?_
      refine lv_goto (tgt := 39) hx hb d_M_value_35 (by decide) ?_
      exact x_iret C0 hw () h rfl d_M_value_39
theorem g_M_prt : GY y_M_prt b_M_prt 3 (some .int) 2 := ⟨wm_967, wm_62, by decide +kernel, by decide +kernel, by decide +kernel⟩
def p_M_prt (M_isTold : Int32) (M_kept : Nat → Int64) (M_had : Nat → Int32) (x1 : Int32) (x2 : Int32) (k : Int32 → Prop) : Prop :=
  ((M_isTold = 0 → (k (-1 : Int32))) ∧ (¬ M_isTold = 0 → (p_M_in x1 (1 : Int32) (201 : Int32) (fun (r_2 : Int32) => ((r_2 = 0 → (k (-1 : Int32))) ∧ (¬ r_2 = 0 → (vp_in x1 202 ∧ (((M_had x1.toNatClampNeg) = 0 → (k (-1 : Int32))) ∧ (¬ (M_had x1.toNatClampNeg) = 0 → (p_M_in x2 (0 : Int32) (1023 : Int32) (fun (r_6 : Int32) => ((¬ r_6 = 0 → (vp_in (((16 : Int32) * x1) + (x2 >>> ((6 : Int32) &&& 31))) 3232 ∧ (k (((J_lshr (M_kept (((16 : Int32) * x1) + (x2 >>> ((6 : Int32) &&& 31))).toNatClampNeg) (x2 &&& (63 : Int32))) &&& (1 : Int64)).toInt32)))) ∧ (r_6 = 0 → (k (-1 : Int32)))))))))))))))
abbrev rm_M_prt : Room := { frames := 1, cells := 0, slots := 0, locals := 22 }
set_option maxHeartbeats 4000000 in
set_option maxRecDepth 100000 in
theorem c_M_prt {l : Launch} {D : va_G} {ca : Nat → ClassId} {tp : Nat} {am : Nat → Nat} {M_clauses : Int32} {M_given : Int32} {M_end : Int32} {M_taped : Int32} {M_size : Int32} {M_at : Int32} {M_to : Int32} {M_sort : Int32} {M_worth : Int32} {M_faultKind : Int32} {M_faultPlace : Int32} {M_isTold : Int32} {M_nodes : Int32} {M_plain : Nat → Int32} {M_minus : Nat → Int32} {M_block : Nat → Int32} {M_left : Nat → Int32} {M_right : Nat → Int32} {M_pivot : Nat → Int32} {M_live : Nat → Int32} {M_needed : Nat → Int32} {M_label : Nat → Int32} {M_tape : Nat → Int32} {M_of : Nat → Int64} {M_kept : Nat → Int64} {M_had : Nat → Int32} {M_told : Nat → Int64} {M_first : Nat → Int64} {M_second : Nat → Int64} {M_node : Nat → Int64} {M_nodeVariable : Nat → Int32} {M_nodeLow : Nat → Int32} {M_nodeHigh : Nat → Int32} {M_wait : Nat → Int32} {x1 : Int32} {x2 : Int32} {k : Int32 → Prop} (h : p_M_prt M_isTold M_kept M_had x1 x2 k) :
    MTi l y_M_prt b_M_prt 3 (some .int) rm_M_prt D ca tp [.ref (am 0), .int x1, .int x2] (WM am ca M_clauses M_given M_end M_taped M_size M_at M_to M_sort M_worth M_faultKind M_faultPlace M_isTold M_nodes M_plain M_minus M_block M_left M_right M_pivot M_live M_needed M_label M_tape M_of M_kept M_had M_told M_first M_second M_node M_nodeVariable M_nodeLow M_nodeHigh M_wait)
      (fun r (_ : Unit) => k r)
      (fun (_ : Unit) => WM am ca M_clauses M_given M_end M_taped M_size M_at M_to M_sort M_worth M_faultKind M_faultPlace M_isTold M_nodes M_plain M_minus M_block M_left M_right M_pivot M_live M_needed M_label M_tape M_of M_kept M_had M_told M_first M_second M_node M_nodeVariable M_nodeLow M_nodeHigh M_wait) 0 0 := by
  refine x_entryi (own := R_M) (nm := "partial") (by decide) rfl rfl (Nat.le_of_ble_eq_true rfl) (fun p e s m below meth c A ls C0 hw hl => ?_)
  have hx := C0.1
  have hb := C0.2.1
  have hl : lv_has ls 3 [(0, .ref (am 0)), (1, .int x1), (2, .int x2)] := hl
  unfold p_M_prt at h
  refine lv_aload_n hx hb d_M_prt_0 rfl (lv_at hl 0 rfl) ?_
  refine x_get C0 hw 0 rfl rfl i_M 25 (by decide) wm_750 rfl rfl d_M_prt_1 ?_
  refine lv_if_eq (tgt := 38) hx hb d_M_prt_4 (by decide) (fun c_1 => ?_) (fun c_1 => ?_)
  · have h := h.1 c_1
    refine lv_iconst (v := -1) hx hb d_M_prt_38 (by decide) ?_
    exact x_iret C0 hw () h rfl d_M_prt_39
  · have h := h.2 c_1
    refine lv_iload_n hx hb d_M_prt_7 rfl (lv_at hl 1 rfl) ?_
    refine lv_iconst (v := 1) hx hb d_M_prt_8 (by decide) ?_
    refine lv_sipush (v := 201) hx hb d_M_prt_9 (by decide) ?_
    refine x_callSi C0 hw hl (c_M_in h) g_M_in wm_891 wm_892 (As := [.int x1, .int (1 : Int32), .int (201 : Int32)]) (rest := []) rfl rfl (Nat.le_of_ble_eq_true rfl) ⟨rfl, rfl⟩ ⟨Nat.le_of_ble_eq_true rfl, Nat.le_of_ble_eq_true rfl⟩ ⟨Nat.le_of_ble_eq_true rfl, Nat.le_of_ble_eq_true rfl⟩ d_M_prt_12 (fun r_2 u H locs h hw => ?_)
    refine lv_if_eq (tgt := 38) hx hb d_M_prt_15 (by decide) (fun c_3 => ?_) (fun c_3 => ?_)
    · have h := h.1 c_3
      refine lv_iconst (v := -1) hx hb d_M_prt_38 (by decide) ?_
      exact x_iret C0 hw () h rfl d_M_prt_39
    · have h := h.2 c_3
      refine lv_aload_n hx hb d_M_prt_18 rfl (lv_at hl 0 rfl) ?_
      refine x_get C0 hw 0 rfl rfl i_M 23 (by decide) wm_748 rfl rfl d_M_prt_19 ?_
      refine lv_iload_n hx hb d_M_prt_22 rfl (lv_at hl 1 rfl) ?_
      obtain ⟨hi_4, h⟩ := h
      refine x_zald C0 hw 13 rfl hi_4 d_M_prt_23 ?_
      refine lv_if_eq (tgt := 38) hx hb d_M_prt_24 (by decide) (fun c_5 => ?_) (fun c_5 => ?_)
      · have h := h.1 c_5
        refine lv_iconst (v := -1) hx hb d_M_prt_38 (by decide) ?_
        exact x_iret C0 hw () h rfl d_M_prt_39
      · have h := h.2 c_5
        refine lv_iload_n hx hb d_M_prt_27 rfl (lv_at hl 2 rfl) ?_
        refine lv_iconst (v := 0) hx hb d_M_prt_28 (by decide) ?_
        refine lv_sipush (v := 1023) hx hb d_M_prt_29 (by decide) ?_
        refine x_callSi C0 hw hl (c_M_in h) g_M_in wm_891 wm_892 (As := [.int x2, .int (0 : Int32), .int (1023 : Int32)]) (rest := []) rfl rfl (Nat.le_of_ble_eq_true rfl) ⟨rfl, rfl⟩ ⟨Nat.le_of_ble_eq_true rfl, Nat.le_of_ble_eq_true rfl⟩ ⟨Nat.le_of_ble_eq_true rfl, Nat.le_of_ble_eq_true rfl⟩ d_M_prt_32 (fun r_6 u H locs h hw => ?_)
        refine lv_if_ne (tgt := 40) hx hb d_M_prt_35 (by decide) (fun c_7 => ?_) (fun c_7 => ?_)
        · have h := h.1 c_7
          refine lv_aload_n hx hb d_M_prt_40 rfl (lv_at hl 0 rfl) ?_
          refine x_get C0 hw 0 rfl rfl i_M 22 (by decide) wm_747 rfl rfl d_M_prt_41 ?_
          refine lv_bipush (v := 16) hx hb d_M_prt_44 (by decide) ?_
          refine lv_iload_n hx hb d_M_prt_46 rfl (lv_at hl 1 rfl) ?_
          refine lv_imul hx hb d_M_prt_47 ?_
          refine lv_iload_n hx hb d_M_prt_48 rfl (lv_at hl 2 rfl) ?_
          refine lv_bipush (v := 6) hx hb d_M_prt_49 (by decide) ?_
          refine lv_ishr hx hb d_M_prt_51 ?_
          refine lv_iadd hx hb d_M_prt_52 ?_
          obtain ⟨hi_8, h⟩ := h
          refine x_lald C0 hw 12 rfl hi_8 d_M_prt_53 ?_
          refine lv_iload_n hx hb d_M_prt_54 rfl (lv_at hl 2 rfl) ?_
          refine lv_bipush (v := 63) hx hb d_M_prt_55 (by decide) ?_
          refine lv_iand hx hb d_M_prt_57 ?_
          refine lv_lshr (v := (J_lshr (M_kept (((16 : Int32) * x1) + (x2 >>> ((6 : Int32) &&& 31))).toNatClampNeg) (x2 &&& (63 : Int32)))) hx hb d_M_prt_58 rfl ?_
          refine lv_lconst (v := 1) hx hb d_M_prt_59 (by decide) ?_
          refine lv_land hx hb d_M_prt_60 ?_
          refine lv_l2i (v := (((J_lshr (M_kept (((16 : Int32) * x1) + (x2 >>> ((6 : Int32) &&& 31))).toNatClampNeg) (x2 &&& (63 : Int32))) &&& (1 : Int64)).toInt32)) hx hb d_M_prt_61 rfl ?_
          exact x_iret C0 hw () h rfl d_M_prt_62
        · have h := h.2 c_7
          refine lv_iconst (v := -1) hx hb d_M_prt_38 (by decide) ?_
          exact x_iret C0 hw () h rfl d_M_prt_39
theorem g_M_graph : GY y_M_graph b_M_graph 3 (some .int) 2 := ⟨wm_978, wm_62, by decide +kernel, by decide +kernel, by decide +kernel⟩
def p_M_graph (M_isTold : Int32) (M_nodes : Int32) (M_nodeVariable : Nat → Int32) (M_nodeLow : Nat → Int32) (M_nodeHigh : Nat → Int32) (x1 : Int32) (x2 : Int32) (k : Int32 → Prop) : Prop :=
  ((M_isTold = 0 → (k (-1 : Int32))) ∧ (¬ M_isTold = 0 → (p_M_in x1 (0 : Int32) (M_nodes - (1 : Int32)) (fun (r_2 : Int32) => ((¬ r_2 = 0 → ((¬ x2 = 0 → ((¬ x2 = (1 : Int32) → ((¬ x2 = (2 : Int32) → (k (-1 : Int32))) ∧ (x2 = (2 : Int32) → (vp_in x1 300 ∧ (k (M_nodeHigh x1.toNatClampNeg)))))) ∧ (x2 = (1 : Int32) → (vp_in x1 300 ∧ (k (M_nodeLow x1.toNatClampNeg)))))) ∧ (x2 = 0 → (vp_in x1 300 ∧ (k (M_nodeVariable x1.toNatClampNeg)))))) ∧ (r_2 = 0 → (k (-1 : Int32))))))))
abbrev rm_M_graph : Room := { frames := 1, cells := 0, slots := 0, locals := 22 }
set_option maxHeartbeats 4000000 in
set_option maxRecDepth 100000 in
theorem c_M_graph {l : Launch} {D : va_G} {ca : Nat → ClassId} {tp : Nat} {am : Nat → Nat} {M_clauses : Int32} {M_given : Int32} {M_end : Int32} {M_taped : Int32} {M_size : Int32} {M_at : Int32} {M_to : Int32} {M_sort : Int32} {M_worth : Int32} {M_faultKind : Int32} {M_faultPlace : Int32} {M_isTold : Int32} {M_nodes : Int32} {M_plain : Nat → Int32} {M_minus : Nat → Int32} {M_block : Nat → Int32} {M_left : Nat → Int32} {M_right : Nat → Int32} {M_pivot : Nat → Int32} {M_live : Nat → Int32} {M_needed : Nat → Int32} {M_label : Nat → Int32} {M_tape : Nat → Int32} {M_of : Nat → Int64} {M_kept : Nat → Int64} {M_had : Nat → Int32} {M_told : Nat → Int64} {M_first : Nat → Int64} {M_second : Nat → Int64} {M_node : Nat → Int64} {M_nodeVariable : Nat → Int32} {M_nodeLow : Nat → Int32} {M_nodeHigh : Nat → Int32} {M_wait : Nat → Int32} {x1 : Int32} {x2 : Int32} {k : Int32 → Prop} (h : p_M_graph M_isTold M_nodes M_nodeVariable M_nodeLow M_nodeHigh x1 x2 k) :
    MTi l y_M_graph b_M_graph 3 (some .int) rm_M_graph D ca tp [.ref (am 0), .int x1, .int x2] (WM am ca M_clauses M_given M_end M_taped M_size M_at M_to M_sort M_worth M_faultKind M_faultPlace M_isTold M_nodes M_plain M_minus M_block M_left M_right M_pivot M_live M_needed M_label M_tape M_of M_kept M_had M_told M_first M_second M_node M_nodeVariable M_nodeLow M_nodeHigh M_wait)
      (fun r (_ : Unit) => k r)
      (fun (_ : Unit) => WM am ca M_clauses M_given M_end M_taped M_size M_at M_to M_sort M_worth M_faultKind M_faultPlace M_isTold M_nodes M_plain M_minus M_block M_left M_right M_pivot M_live M_needed M_label M_tape M_of M_kept M_had M_told M_first M_second M_node M_nodeVariable M_nodeLow M_nodeHigh M_wait) 0 0 := by
  refine x_entryi (own := R_M) (nm := "graph") (by decide) rfl rfl (Nat.le_of_ble_eq_true rfl) (fun p e s m below meth c A ls C0 hw hl => ?_)
  have hx := C0.1
  have hb := C0.2.1
  have hl : lv_has ls 3 [(0, .ref (am 0)), (1, .int x1), (2, .int x2)] := hl
  unfold p_M_graph at h
  refine lv_aload_n hx hb d_M_graph_0 rfl (lv_at hl 0 rfl) ?_
  refine x_get C0 hw 0 rfl rfl i_M 25 (by decide) wm_750 rfl rfl d_M_graph_1 ?_
  refine lv_if_eq (tgt := 21) hx hb d_M_graph_4 (by decide) (fun c_1 => ?_) (fun c_1 => ?_)
  · have h := h.1 c_1
    refine lv_iconst (v := -1) hx hb d_M_graph_21 (by decide) ?_
    exact x_iret C0 hw () h rfl d_M_graph_22
  · have h := h.2 c_1
    refine lv_iload_n hx hb d_M_graph_7 rfl (lv_at hl 1 rfl) ?_
    refine lv_iconst (v := 0) hx hb d_M_graph_8 (by decide) ?_
    refine lv_aload_n hx hb d_M_graph_9 rfl (lv_at hl 0 rfl) ?_
    refine x_get C0 hw 0 rfl rfl i_M 32 (by decide) wm_757 rfl rfl d_M_graph_10 ?_
    refine lv_iconst (v := 1) hx hb d_M_graph_13 (by decide) ?_
    refine lv_isub hx hb d_M_graph_14 ?_
    refine x_callSi C0 hw hl (c_M_in h) g_M_in wm_891 wm_892 (As := [.int x1, .int (0 : Int32), .int (M_nodes - (1 : Int32))]) (rest := []) rfl rfl (Nat.le_of_ble_eq_true rfl) ⟨rfl, rfl⟩ ⟨Nat.le_of_ble_eq_true rfl, Nat.le_of_ble_eq_true rfl⟩ ⟨Nat.le_of_ble_eq_true rfl, Nat.le_of_ble_eq_true rfl⟩ d_M_graph_15 (fun r_2 u H locs h hw => ?_)
    refine lv_if_ne (tgt := 23) hx hb d_M_graph_18 (by decide) (fun c_3 => ?_) (fun c_3 => ?_)
    · have h := h.1 c_3
      refine lv_iload_n hx hb d_M_graph_23 rfl (lv_at hl 2 rfl) ?_
      refine lv_if_ne (tgt := 36) hx hb d_M_graph_24 (by decide) (fun c_4 => ?_) (fun c_4 => ?_)
      · have h := h.1 c_4
        refine lv_iload_n hx hb d_M_graph_36 rfl (lv_at hl 2 rfl) ?_
        refine lv_iconst (v := 1) hx hb d_M_graph_37 (by decide) ?_
        refine lv_icmp_ne (tgt := 50) hx hb d_M_graph_38 (by decide) (fun c_5 => ?_) (fun c_5 => ?_)
        · have h := h.1 c_5
          refine lv_iload_n hx hb d_M_graph_50 rfl (lv_at hl 2 rfl) ?_
          refine lv_iconst (v := 2) hx hb d_M_graph_51 (by decide) ?_
          refine lv_icmp_ne (tgt := 64) hx hb d_M_graph_52 (by decide) (fun c_6 => ?_) (fun c_6 => ?_)
          · have h := h.1 c_6
            refine lv_iconst (v := -1) hx hb d_M_graph_64 (by decide) ?_
            exact x_iret C0 hw () h rfl d_M_graph_65
          · have h := h.2 c_6
            refine lv_aload_n hx hb d_M_graph_55 rfl (lv_at hl 0 rfl) ?_
            refine x_get C0 hw 0 rfl rfl i_M 31 (by decide) wm_756 rfl rfl d_M_graph_56 ?_
            refine lv_iload_n hx hb d_M_graph_59 rfl (lv_at hl 1 rfl) ?_
            obtain ⟨hi_7, h⟩ := h
            refine x_iald C0 hw 20 rfl hi_7 d_M_graph_60 ?_
            refine lv_goto (tgt := 65) hx hb d_M_graph_61 (by decide) ?_
            exact x_iret C0 hw () h rfl d_M_graph_65
        · have h := h.2 c_5
          refine lv_aload_n hx hb d_M_graph_41 rfl (lv_at hl 0 rfl) ?_
          refine x_get C0 hw 0 rfl rfl i_M 30 (by decide) wm_755 rfl rfl d_M_graph_42 ?_
          refine lv_iload_n hx hb d_M_graph_45 rfl (lv_at hl 1 rfl) ?_
          obtain ⟨hi_8, h⟩ := h
          refine x_iald C0 hw 19 rfl hi_8 d_M_graph_46 ?_
          refine lv_goto (tgt := 65) hx hb d_M_graph_47 (by decide) ?_
          exact x_iret C0 hw () h rfl d_M_graph_65
      · have h := h.2 c_4
        refine lv_aload_n hx hb d_M_graph_27 rfl (lv_at hl 0 rfl) ?_
        refine x_get C0 hw 0 rfl rfl i_M 29 (by decide) wm_754 rfl rfl d_M_graph_28 ?_
        refine lv_iload_n hx hb d_M_graph_31 rfl (lv_at hl 1 rfl) ?_
        obtain ⟨hi_9, h⟩ := h
        refine x_iald C0 hw 18 rfl hi_9 d_M_graph_32 ?_
        refine lv_goto (tgt := 65) hx hb d_M_graph_33 (by decide) ?_
        exact x_iret C0 hw () h rfl d_M_graph_65
    · have h := h.2 c_3
      refine lv_iconst (v := -1) hx hb d_M_graph_21 (by decide) ?_
      exact x_iret C0 hw () h rfl d_M_graph_22
theorem g_M_told : GY y_M_told b_M_told 4 (some .int) 1 := ⟨wm_971, wm_62, by decide +kernel, by decide +kernel, by decide +kernel⟩
def p_M_told_L52 (M_nodes : Int32) (M_nodeVariable : Nat → Int32) (k : Int32 → Prop) : Nat → Int32 → Int32 → Prop
  | 0, _, _ => False
  | n + 1, x2, x3 =>
    ((M_nodes ≤ x3 → (k x2)) ∧ (¬ M_nodes ≤ x3 → (vp_in x3 300 ∧ (∀ v2_6 : Int32, v2_6 = (x2 ||| ((1 : Int32) <<< (((M_nodeVariable x3.toNatClampNeg) - (1 : Int32)) &&& 31))) → (p_M_told_L52 M_nodes M_nodeVariable k n v2_6 (x3 + 1))))))
def p_M_told_L17 (M_told : Nat → Int64) (k : Int32 → Prop) : Nat → Int32 → Int32 → Prop
  | 0, _, _ => False
  | n + 1, x2, x3 =>
    (((16 : Int32) ≤ x3 → (k x2)) ∧ (¬ (16 : Int32) ≤ x3 → (vp_in x3 16 ∧ (p_M_ones (M_told x3.toNatClampNeg) (fun (r_10 : Int32) => (p_M_told_L17 M_told k n (x2 + r_10) (x3 + 1)))))))
def p_M_told (M_isTold : Int32) (M_nodes : Int32) (M_told : Nat → Int64) (M_nodeVariable : Nat → Int32) (x1 : Int32) (k : Int32 → Prop) : Prop :=
  ((¬ M_isTold = 0 → ((¬ x1 = 0 → ((x1 = (1 : Int32) → (∃ j_7, p_M_told_L52 M_nodes M_nodeVariable k j_7 (0 : Int32) (0 : Int32))) ∧ (¬ x1 = (1 : Int32) → (k (-1 : Int32))))) ∧ (x1 = 0 → (∃ j_11, p_M_told_L17 M_told k j_11 (0 : Int32) (0 : Int32))))) ∧ (M_isTold = 0 → (k (-1 : Int32))))
abbrev rm_M_told : Room := { frames := 1, cells := 0, slots := 0, locals := 24 }
set_option maxHeartbeats 4000000 in
set_option maxRecDepth 100000 in
theorem b_M_told_L52 {p : Program} {l : Launch} {e : Env} {s : State} {m : MethodId} {args : Array Value} {below : List Frame} {meth : Method} {c : Code} {D : va_G} {ca : Nat → ClassId} {tp : Nat} {A : Nat → Prop} {am : Nat → Nat} {M_clauses : Int32} {M_given : Int32} {M_end : Int32} {M_taped : Int32} {M_size : Int32} {M_at : Int32} {M_to : Int32} {M_sort : Int32} {M_worth : Int32} {M_faultKind : Int32} {M_faultPlace : Int32} {M_isTold : Int32} {M_nodes : Int32} {M_plain : Nat → Int32} {M_minus : Nat → Int32} {M_block : Nat → Int32} {M_left : Nat → Int32} {M_right : Nat → Int32} {M_pivot : Nat → Int32} {M_live : Nat → Int32} {M_needed : Nat → Int32} {M_label : Nat → Int32} {M_tape : Nat → Int32} {M_of : Nat → Int64} {M_kept : Nat → Int64} {M_had : Nat → Int32} {M_told : Nat → Int64} {M_first : Nat → Int64} {M_second : Nat → Int64} {M_node : Nat → Int64} {M_nodeVariable : Nat → Int32} {M_nodeLow : Nat → Int32} {M_nodeHigh : Nat → Int32} {M_wait : Nat → Int32}  {k : Int32 → Prop}  (C0 : CX p s m args meth c b_M_told 4 (some .int) R_M "told" D ca tp A) :
    ∀ (n : Nat) (x2 : Int32) (x3 : Int32) {H : Heap} {locs : List Loc} {ls : Array Slot}, p_M_told_L52 M_nodes M_nodeVariable k n x2 x3 → WH D A s (WM am ca M_clauses M_given M_end M_taped M_size M_at M_to M_sort M_worth M_faultKind M_faultPlace M_isTold M_nodes M_plain M_minus M_block M_left M_right M_pivot M_live M_needed M_label M_tape M_of M_kept M_had M_told M_first M_second M_node M_nodeVariable M_nodeLow M_nodeHigh M_wait) H locs → lv_has ls 4 [(0, .ref (am 0)), (2, .int x2), (3, .int x3)] →
      W p l e rm_M_told s m args below meth c H locs 0 0 (QI D A below args s (fun r (_ : Unit) => k r) (fun (_ : Unit) => WM am ca M_clauses M_given M_end M_taped M_size M_at M_to M_sort M_worth M_faultKind M_faultPlace M_isTold M_nodes M_plain M_minus M_block M_left M_right M_pivot M_live M_needed M_label M_tape M_of M_kept M_had M_told M_first M_second M_node M_nodeVariable M_nodeLow M_nodeHigh M_wait) 0 0) (F0 m 52 ls []) := by
  have hx := C0.1
  have hb := C0.2.1
  intro n
  induction n with
  | zero =>
    intro x2 x3 H locs ls h
    exact False.elim h
  | succ n ih =>
    intro x2 x3 H locs ls h hw hl
    unfold p_M_told_L52 at h
    refine lv_iload_n hx hb d_M_told_52 rfl (lv_at hl 2 rfl) ?_
    refine lv_aload_n hx hb d_M_told_53 rfl (lv_at hl 0 rfl) ?_
    refine x_get C0 hw 0 rfl rfl i_M 32 (by decide) wm_757 rfl rfl d_M_told_54 ?_
    refine lv_icmp_ge (tgt := 79) hx hb d_M_told_57 (by decide) (fun c_4 => ?_) (fun c_4 => ?_)
    · have h := h.1 c_4
      refine lv_iload_n hx hb d_M_told_79 rfl (lv_at hl 1 rfl) ?_
      exact x_iret C0 hw () h rfl d_M_told_80
    · have h := h.2 c_4
      refine lv_iload_n hx hb d_M_told_60 rfl (lv_at hl 1 rfl) ?_
      refine lv_iconst (v := 1) hx hb d_M_told_61 (by decide) ?_
      refine lv_aload_n hx hb d_M_told_62 rfl (lv_at hl 0 rfl) ?_
      refine x_get C0 hw 0 rfl rfl i_M 29 (by decide) wm_754 rfl rfl d_M_told_63 ?_
      refine lv_iload_n hx hb d_M_told_66 rfl (lv_at hl 2 rfl) ?_
      obtain ⟨hi_5, h⟩ := h
      refine x_iald C0 hw 18 rfl hi_5 d_M_told_67 ?_
      refine lv_iconst (v := 1) hx hb d_M_told_68 (by decide) ?_
      refine lv_isub hx hb d_M_told_69 ?_
      refine lv_ishl hx hb d_M_told_70 ?_
      refine lv_ior hx hb d_M_told_71 ?_
      refine lv_topi (fun v2_6 e_v2_6 => ?_)
      have h := h v2_6 e_v2_6
      refine lv_istore_n (lv' := [(2, .int v2_6), (0, .ref (am 0)), (3, .int x3)]) hx hb d_M_told_72 rfl hl (by decide) rfl (fun ls hl => ?_)
      refine lv_iinc (v := (x3 + 1)) (lv' := [(3, .int (x3 + 1)), (2, .int v2_6), (0, .ref (am 0))]) hx hb d_M_told_73 hl (k := 2) rfl rfl (by decide) rfl (fun ls hl => ?_)
      refine lv_goto (tgt := 52) hx hb d_M_told_76 (by decide) ?_
      exact ih _ _ h hw (lv_sub hl [2, 1, 0] rfl)
set_option maxHeartbeats 4000000 in
set_option maxRecDepth 100000 in
theorem b_M_told_L17 {p : Program} {l : Launch} {e : Env} {s : State} {m : MethodId} {args : Array Value} {below : List Frame} {meth : Method} {c : Code} {D : va_G} {ca : Nat → ClassId} {tp : Nat} {A : Nat → Prop} {am : Nat → Nat} {M_clauses : Int32} {M_given : Int32} {M_end : Int32} {M_taped : Int32} {M_size : Int32} {M_at : Int32} {M_to : Int32} {M_sort : Int32} {M_worth : Int32} {M_faultKind : Int32} {M_faultPlace : Int32} {M_isTold : Int32} {M_nodes : Int32} {M_plain : Nat → Int32} {M_minus : Nat → Int32} {M_block : Nat → Int32} {M_left : Nat → Int32} {M_right : Nat → Int32} {M_pivot : Nat → Int32} {M_live : Nat → Int32} {M_needed : Nat → Int32} {M_label : Nat → Int32} {M_tape : Nat → Int32} {M_of : Nat → Int64} {M_kept : Nat → Int64} {M_had : Nat → Int32} {M_told : Nat → Int64} {M_first : Nat → Int64} {M_second : Nat → Int64} {M_node : Nat → Int64} {M_nodeVariable : Nat → Int32} {M_nodeLow : Nat → Int32} {M_nodeHigh : Nat → Int32} {M_wait : Nat → Int32}  {k : Int32 → Prop}  (C0 : CX p s m args meth c b_M_told 4 (some .int) R_M "told" D ca tp A) :
    ∀ (n : Nat) (x2 : Int32) (x3 : Int32) {H : Heap} {locs : List Loc} {ls : Array Slot}, p_M_told_L17 M_told k n x2 x3 → WH D A s (WM am ca M_clauses M_given M_end M_taped M_size M_at M_to M_sort M_worth M_faultKind M_faultPlace M_isTold M_nodes M_plain M_minus M_block M_left M_right M_pivot M_live M_needed M_label M_tape M_of M_kept M_had M_told M_first M_second M_node M_nodeVariable M_nodeLow M_nodeHigh M_wait) H locs → lv_has ls 4 [(0, .ref (am 0)), (2, .int x2), (3, .int x3)] →
      W p l e rm_M_told s m args below meth c H locs 0 0 (QI D A below args s (fun r (_ : Unit) => k r) (fun (_ : Unit) => WM am ca M_clauses M_given M_end M_taped M_size M_at M_to M_sort M_worth M_faultKind M_faultPlace M_isTold M_nodes M_plain M_minus M_block M_left M_right M_pivot M_live M_needed M_label M_tape M_of M_kept M_had M_told M_first M_second M_node M_nodeVariable M_nodeLow M_nodeHigh M_wait) 0 0) (F0 m 17 ls []) := by
  have hx := C0.1
  have hb := C0.2.1
  intro n
  induction n with
  | zero =>
    intro x2 x3 H locs ls h
    exact False.elim h
  | succ n ih =>
    intro x2 x3 H locs ls h hw hl
    unfold p_M_told_L17 at h
    refine lv_iload_n hx hb d_M_told_17 rfl (lv_at hl 2 rfl) ?_
    refine lv_bipush (v := 16) hx hb d_M_told_18 (by decide) ?_
    refine lv_icmp_ge (tgt := 41) hx hb d_M_told_20 (by decide) (fun c_8 => ?_) (fun c_8 => ?_)
    · have h := h.1 c_8
      refine lv_iload_n hx hb d_M_told_41 rfl (lv_at hl 1 rfl) ?_
      exact x_iret C0 hw () h rfl d_M_told_42
    · have h := h.2 c_8
      refine lv_iload_n hx hb d_M_told_23 rfl (lv_at hl 1 rfl) ?_
      refine lv_aload_n hx hb d_M_told_24 rfl (lv_at hl 0 rfl) ?_
      refine x_get C0 hw 0 rfl rfl i_M 24 (by decide) wm_749 rfl rfl d_M_told_25 ?_
      refine lv_iload_n hx hb d_M_told_28 rfl (lv_at hl 2 rfl) ?_
      obtain ⟨hi_9, h⟩ := h
      refine x_lald C0 hw 14 rfl hi_9 d_M_told_29 ?_
      refine x_callSi C0 hw hl (c_M_ones h) g_M_ones wm_972 wm_973 (As := [.long (M_told x3.toNatClampNeg)]) (rest := [.int x2]) rfl rfl (Nat.le_of_ble_eq_true rfl) ⟨rfl, rfl⟩ ⟨Nat.le_of_ble_eq_true rfl, Nat.le_of_ble_eq_true rfl⟩ ⟨Nat.le_of_ble_eq_true rfl, Nat.le_of_ble_eq_true rfl⟩ d_M_told_30 (fun r_10 u H locs h hw => ?_)
      refine lv_iadd hx hb d_M_told_33 ?_
      refine lv_istore_n (lv' := [(2, .int (x2 + r_10)), (0, .ref (am 0)), (3, .int x3)]) hx hb d_M_told_34 rfl hl (by decide) rfl (fun ls hl => ?_)
      refine lv_iinc (v := (x3 + 1)) (lv' := [(3, .int (x3 + 1)), (2, .int (x2 + r_10)), (0, .ref (am 0))]) hx hb d_M_told_35 hl (k := 2) rfl rfl (by decide) rfl (fun ls hl => ?_)
      refine lv_goto (tgt := 17) hx hb d_M_told_38 (by decide) ?_
      exact ih _ _ h hw (lv_sub hl [2, 1, 0] rfl)
set_option maxHeartbeats 4000000 in
set_option maxRecDepth 100000 in
theorem c_M_told {l : Launch} {D : va_G} {ca : Nat → ClassId} {tp : Nat} {am : Nat → Nat} {M_clauses : Int32} {M_given : Int32} {M_end : Int32} {M_taped : Int32} {M_size : Int32} {M_at : Int32} {M_to : Int32} {M_sort : Int32} {M_worth : Int32} {M_faultKind : Int32} {M_faultPlace : Int32} {M_isTold : Int32} {M_nodes : Int32} {M_plain : Nat → Int32} {M_minus : Nat → Int32} {M_block : Nat → Int32} {M_left : Nat → Int32} {M_right : Nat → Int32} {M_pivot : Nat → Int32} {M_live : Nat → Int32} {M_needed : Nat → Int32} {M_label : Nat → Int32} {M_tape : Nat → Int32} {M_of : Nat → Int64} {M_kept : Nat → Int64} {M_had : Nat → Int32} {M_told : Nat → Int64} {M_first : Nat → Int64} {M_second : Nat → Int64} {M_node : Nat → Int64} {M_nodeVariable : Nat → Int32} {M_nodeLow : Nat → Int32} {M_nodeHigh : Nat → Int32} {M_wait : Nat → Int32} {x1 : Int32} {k : Int32 → Prop} (h : p_M_told M_isTold M_nodes M_told M_nodeVariable x1 k) :
    MTi l y_M_told b_M_told 4 (some .int) rm_M_told D ca tp [.ref (am 0), .int x1] (WM am ca M_clauses M_given M_end M_taped M_size M_at M_to M_sort M_worth M_faultKind M_faultPlace M_isTold M_nodes M_plain M_minus M_block M_left M_right M_pivot M_live M_needed M_label M_tape M_of M_kept M_had M_told M_first M_second M_node M_nodeVariable M_nodeLow M_nodeHigh M_wait)
      (fun r (_ : Unit) => k r)
      (fun (_ : Unit) => WM am ca M_clauses M_given M_end M_taped M_size M_at M_to M_sort M_worth M_faultKind M_faultPlace M_isTold M_nodes M_plain M_minus M_block M_left M_right M_pivot M_live M_needed M_label M_tape M_of M_kept M_had M_told M_first M_second M_node M_nodeVariable M_nodeLow M_nodeHigh M_wait) 0 0 := by
  refine x_entryi (own := R_M) (nm := "told") (by decide) rfl rfl (Nat.le_of_ble_eq_true rfl) (fun p e s m below meth c A ls C0 hw hl => ?_)
  have hx := C0.1
  have hb := C0.2.1
  have hl : lv_has ls 4 [(0, .ref (am 0)), (1, .int x1)] := hl
  unfold p_M_told at h
  refine lv_aload_n hx hb d_M_told_0 rfl (lv_at hl 0 rfl) ?_
  refine x_get C0 hw 0 rfl rfl i_M 25 (by decide) wm_750 rfl rfl d_M_told_1 ?_
  refine lv_if_ne (tgt := 9) hx hb d_M_told_4 (by decide) (fun c_1 => ?_) (fun c_1 => ?_)
  · have h := h.1 c_1
    refine lv_iconst (v := 0) hx hb d_M_told_9 (by decide) ?_
    refine lv_istore_n (lv' := [(2, .int (0 : Int32)), (0, .ref (am 0)), (1, .int x1)]) hx hb d_M_told_10 rfl hl (by decide) rfl (fun ls hl => ?_)
    refine lv_iload_n hx hb d_M_told_11 rfl (lv_at hl 2 rfl) ?_
    refine lv_if_ne (tgt := 43) hx hb d_M_told_12 (by decide) (fun c_2 => ?_) (fun c_2 => ?_)
    · have h := h.1 c_2
      refine lv_iload_n hx hb d_M_told_43 rfl (lv_at hl 2 rfl) ?_
      refine lv_iconst (v := 1) hx hb d_M_told_44 (by decide) ?_
      refine lv_icmp_eq (tgt := 50) hx hb d_M_told_45 (by decide) (fun c_3 => ?_) (fun c_3 => ?_)
      · have h := h.1 c_3
        refine lv_iconst (v := 0) hx hb d_M_told_50 (by decide) ?_
        refine lv_istore_n (lv' := [(3, .int (0 : Int32)), (2, .int (0 : Int32)), (0, .ref (am 0)), (1, .int x1)]) hx hb d_M_told_51 rfl hl (by decide) rfl (fun ls hl => ?_)
        obtain ⟨j_7, h⟩ := h
        refine b_M_told_L52 C0 _ _ _ h hw (lv_sub hl [2, 1, 0] rfl)
      · have h := h.2 c_3
        refine lv_iconst (v := -1) hx hb d_M_told_48 (by decide) ?_
        exact x_iret C0 hw () h rfl d_M_told_49
    · have h := h.2 c_2
      refine lv_iconst (v := 0) hx hb d_M_told_15 (by decide) ?_
      refine lv_istore_n (lv' := [(3, .int (0 : Int32)), (2, .int (0 : Int32)), (0, .ref (am 0)), (1, .int x1)]) hx hb d_M_told_16 rfl hl (by decide) rfl (fun ls hl => ?_)
      obtain ⟨j_11, h⟩ := h
      refine b_M_told_L17 C0 _ _ _ h hw (lv_sub hl [2, 1, 0] rfl)
  · have h := h.2 c_1
    refine lv_iconst (v := -1) hx hb d_M_told_7 (by decide) ?_
    exact x_iret C0 hw () h rfl d_M_told_8
theorem g_M_follows : GY y_M_follows b_M_follows 5 (some .int) 3 := ⟨wm_982, wm_62, by decide +kernel, by decide +kernel, by decide +kernel⟩
def p_M_follows_L50 (M_end : Int32) (M_of : Nat → Int64) (k85 : (Nat → Int64) → Prop) : Nat → Int32 → (Nat → Int64) → Prop
  | 0, _, _ => False
  | n + 1, x4, M_first =>
    (((16 : Int32) ≤ x4 → (k85 M_first)) ∧ (¬ (16 : Int32) ≤ x4 → (vp_in (((16 : Int32) * M_end) + x4) 3232 ∧ (vp_in x4 16 ∧ (∀ v_M_first_13 : Int64, v_M_first_13 = (M_of (((16 : Int32) * M_end) + x4).toNatClampNeg) → (p_M_follows_L50 M_end M_of k85 n (x4 + 1) (vp_updL M_first x4.toNatClampNeg v_M_first_13)))))))
def p_M_follows_L94 (M_end : Int32) (M_of : Nat → Int64) (M_first : Nat → Int64) (k : Int32 → (Nat → Int64) → (Nat → Int64) → Prop) : Nat → Int32 → Prop
  | 0, _ => False
  | n + 1, x4 =>
    (((16 : Int32) ≤ x4 → (k (1 : Int32) M_of M_first)) ∧ (¬ (16 : Int32) ≤ x4 → (vp_in x4 16 ∧ (vp_in (((16 : Int32) * M_end) + x4) 3232 ∧ (((lg_cmp ((M_first x4.toNatClampNeg) &&& ((M_of (((16 : Int32) * M_end) + x4).toNatClampNeg) ^^^ (-1 : Int64))) (0 : Int64)) = 0 → (p_M_follows_L94 M_end M_of M_first k n (x4 + 1))) ∧ (¬ (lg_cmp ((M_first x4.toNatClampNeg) &&& ((M_of (((16 : Int32) * M_end) + x4).toNatClampNeg) ^^^ (-1 : Int64))) (0 : Int64)) = 0 → (k (0 : Int32) M_of M_first)))))))
def p_M_follows (M_clauses : Int32) (M_end : Int32) (M_plain : Nat → Int32) (M_minus : Nat → Int32) (M_block : Nat → Int32) (M_left : Nat → Int32) (M_right : Nat → Int32) (M_pivot : Nat → Int32) (M_needed : Nat → Int32) (M_label : Nat → Int32) (M_of : Nat → Int64) (M_first : Nat → Int64) (x1 : Int32) (x2 : Int32) (x3 : Int32) (k : Int32 → (Nat → Int64) → (Nat → Int64) → Prop) : Prop :=
  (p_M_in x1 (1 : Int32) (7 : Int32) (fun (r_1 : Int32) => ((r_1 = 0 → (k (-2 : Int32) M_of M_first)) ∧ (¬ r_1 = 0 → (p_M_in x2 (0 : Int32) (3 : Int32) (fun (r_3 : Int32) => ((r_3 = 0 → (k (-2 : Int32) M_of M_first)) ∧ (¬ r_3 = 0 → (p_M_in x3 (0 : Int32) (3 : Int32) (fun (r_5 : Int32) => ((¬ r_5 = 0 → ((¬ M_end = (-1 : Int32) → (p_M_partials M_clauses M_plain M_minus M_block M_left M_right M_pivot M_needed M_label M_of x1 x2 (fun (M_of_8 : Nat → Int64) => (∃ j_22, p_M_follows_L50 M_end M_of_8 (fun (M_first_14 : Nat → Int64) => (p_M_partials M_clauses M_plain M_minus M_block M_left M_right M_pivot M_needed M_label M_of_8 x1 x3 (fun (M_of_15 : Nat → Int64) => (∃ j_21, p_M_follows_L94 M_end M_of_15 M_first_14 k j_21 (0 : Int32))))) j_22 (0 : Int32) M_first)))) ∧ (M_end = (-1 : Int32) → (k (-1 : Int32) M_of M_first)))) ∧ (r_5 = 0 → (k (-2 : Int32) M_of M_first)))))))))))))
abbrev rm_M_follows : Room := { frames := 3, cells := 0, slots := 0, locals := 89 }
set_option maxHeartbeats 4000000 in
set_option maxRecDepth 100000 in
theorem b_M_follows_L50 {p : Program} {l : Launch} {e : Env} {s : State} {m : MethodId} {args : Array Value} {below : List Frame} {meth : Method} {c : Code} {D : va_G} {ca : Nat → ClassId} {tp : Nat} {A : Nat → Prop} {am : Nat → Nat} {M_clauses : Int32} {M_given : Int32} {M_end : Int32} {M_taped : Int32} {M_size : Int32} {M_at : Int32} {M_to : Int32} {M_sort : Int32} {M_worth : Int32} {M_faultKind : Int32} {M_faultPlace : Int32} {M_isTold : Int32} {M_nodes : Int32} {M_plain : Nat → Int32} {M_minus : Nat → Int32} {M_block : Nat → Int32} {M_left : Nat → Int32} {M_right : Nat → Int32} {M_pivot : Nat → Int32} {M_live : Nat → Int32} {M_needed : Nat → Int32} {M_label : Nat → Int32} {M_tape : Nat → Int32} {M_of : Nat → Int64} {M_kept : Nat → Int64} {M_had : Nat → Int32} {M_told : Nat → Int64} {M_second : Nat → Int64} {M_node : Nat → Int64} {M_nodeVariable : Nat → Int32} {M_nodeLow : Nat → Int32} {M_nodeHigh : Nat → Int32} {M_wait : Nat → Int32} {x1 : Int32} {x3 : Int32} {k : Int32 → (Nat → Int64) → (Nat → Int64) → Prop} {k85 : (Nat → Int64) → Prop} (C0 : CX p s m args meth c b_M_follows 5 (some .int) R_M "follows" D ca tp A) :
    ∀ (n : Nat) (x4 : Int32) (M_first : Nat → Int64) {H : Heap} {locs : List Loc} {ls : Array Slot}, p_M_follows_L50 M_end M_of k85 n x4 M_first → WH D A s (WM am ca M_clauses M_given M_end M_taped M_size M_at M_to M_sort M_worth M_faultKind M_faultPlace M_isTold M_nodes M_plain M_minus M_block M_left M_right M_pivot M_live M_needed M_label M_tape M_of M_kept M_had M_told M_first M_second M_node M_nodeVariable M_nodeLow M_nodeHigh M_wait) H locs → lv_has ls 5 [(0, .ref (am 0)), (1, .int x1), (3, .int x3), (4, .int x4)] →
      (∀ (M_first : Nat → Int64) (H : Heap) (locs : List Loc) (ls : Array Slot), k85 M_first → WH D A s (WM am ca M_clauses M_given M_end M_taped M_size M_at M_to M_sort M_worth M_faultKind M_faultPlace M_isTold M_nodes M_plain M_minus M_block M_left M_right M_pivot M_live M_needed M_label M_tape M_of M_kept M_had M_told M_first M_second M_node M_nodeVariable M_nodeLow M_nodeHigh M_wait) H locs → lv_has ls 5 [(0, .ref (am 0)), (1, .int x1), (3, .int x3)] → W p l e rm_M_follows s m args below meth c H locs 0 0 (QI D A below args s (fun r (u : (Nat → Int64) × (Nat → Int64)) => k r u.1 u.2) (fun (u : (Nat → Int64) × (Nat → Int64)) => WM am ca M_clauses M_given M_end M_taped M_size M_at M_to M_sort M_worth M_faultKind M_faultPlace M_isTold M_nodes M_plain M_minus M_block M_left M_right M_pivot M_live M_needed M_label M_tape u.1 M_kept M_had M_told u.2 M_second M_node M_nodeVariable M_nodeLow M_nodeHigh M_wait) 0 0) (F0 m 85 ls [])) →
      W p l e rm_M_follows s m args below meth c H locs 0 0 (QI D A below args s (fun r (u : (Nat → Int64) × (Nat → Int64)) => k r u.1 u.2) (fun (u : (Nat → Int64) × (Nat → Int64)) => WM am ca M_clauses M_given M_end M_taped M_size M_at M_to M_sort M_worth M_faultKind M_faultPlace M_isTold M_nodes M_plain M_minus M_block M_left M_right M_pivot M_live M_needed M_label M_tape u.1 M_kept M_had M_told u.2 M_second M_node M_nodeVariable M_nodeLow M_nodeHigh M_wait) 0 0) (F0 m 50 ls []) := by
  have hx := C0.1
  have hb := C0.2.1
  intro n
  induction n with
  | zero =>
    intro x4 M_first H locs ls h
    exact False.elim h
  | succ n ih =>
    intro x4 M_first H locs ls h hw hl h85
    unfold p_M_follows_L50 at h
    refine lv_iload hx hb d_M_follows_50 (lv_at hl 3 rfl) ?_
    refine lv_bipush (v := 16) hx hb d_M_follows_52 (by decide) ?_
    refine lv_icmp_ge (tgt := 85) hx hb d_M_follows_54 (by decide) (fun c_10 => ?_) (fun c_10 => ?_)
    · have h := h.1 c_10
      exact h85 _ _ _ _ h hw (lv_sub hl [0, 1, 2] rfl)
    · have h := h.2 c_10
      refine lv_aload_n hx hb d_M_follows_57 rfl (lv_at hl 0 rfl) ?_
      refine x_get C0 hw 0 rfl rfl i_M 26 (by decide) wm_751 rfl rfl d_M_follows_58 ?_
      refine lv_iload hx hb d_M_follows_61 (lv_at hl 3 rfl) ?_
      refine lv_aload_n hx hb d_M_follows_63 rfl (lv_at hl 0 rfl) ?_
      refine x_get C0 hw 0 rfl rfl i_M 21 (by decide) wm_746 rfl rfl d_M_follows_64 ?_
      refine lv_bipush (v := 16) hx hb d_M_follows_67 (by decide) ?_
      refine lv_aload_n hx hb d_M_follows_69 rfl (lv_at hl 0 rfl) ?_
      refine x_get C0 hw 0 rfl rfl i_M 10 (by decide) wm_735 rfl rfl d_M_follows_70 ?_
      refine lv_imul hx hb d_M_follows_73 ?_
      refine lv_iload hx hb d_M_follows_74 (lv_at hl 3 rfl) ?_
      refine lv_iadd hx hb d_M_follows_76 ?_
      obtain ⟨hi_11, h⟩ := h
      refine x_lald C0 hw 11 rfl hi_11 d_M_follows_77 ?_
      obtain ⟨hi_12, h⟩ := h
      refine lv_topl (fun v_M_first_13 e_v_M_first_13 => ?_)
      have h := h v_M_first_13 e_v_M_first_13
      refine x_last C0 hw 15 rfl hi_12 (ws' := WM am ca M_clauses M_given M_end M_taped M_size M_at M_to M_sort M_worth M_faultKind M_faultPlace M_isTold M_nodes M_plain M_minus M_block M_left M_right M_pivot M_live M_needed M_label M_tape M_of M_kept M_had M_told (vp_updL M_first x4.toNatClampNeg v_M_first_13) M_second M_node M_nodeVariable M_nodeLow M_nodeHigh M_wait) rfl d_M_follows_78 (fun H locs hw => ?_)
      refine lv_iinc (v := (x4 + 1)) (lv' := [(4, .int (x4 + 1)), (0, .ref (am 0)), (1, .int x1), (3, .int x3)]) hx hb d_M_follows_79 hl (k := 3) rfl rfl (by decide) rfl (fun ls hl => ?_)
      refine lv_goto (tgt := 50) hx hb d_M_follows_82 (by decide) ?_
      exact ih _ _ h hw (lv_sub hl [1, 2, 3, 0] rfl) h85
set_option maxHeartbeats 4000000 in
set_option maxRecDepth 100000 in
theorem b_M_follows_L94 {p : Program} {l : Launch} {e : Env} {s : State} {m : MethodId} {args : Array Value} {below : List Frame} {meth : Method} {c : Code} {D : va_G} {ca : Nat → ClassId} {tp : Nat} {A : Nat → Prop} {am : Nat → Nat} {M_clauses : Int32} {M_given : Int32} {M_end : Int32} {M_taped : Int32} {M_size : Int32} {M_at : Int32} {M_to : Int32} {M_sort : Int32} {M_worth : Int32} {M_faultKind : Int32} {M_faultPlace : Int32} {M_isTold : Int32} {M_nodes : Int32} {M_plain : Nat → Int32} {M_minus : Nat → Int32} {M_block : Nat → Int32} {M_left : Nat → Int32} {M_right : Nat → Int32} {M_pivot : Nat → Int32} {M_live : Nat → Int32} {M_needed : Nat → Int32} {M_label : Nat → Int32} {M_tape : Nat → Int32} {M_of : Nat → Int64} {M_kept : Nat → Int64} {M_had : Nat → Int32} {M_told : Nat → Int64} {M_first : Nat → Int64} {M_second : Nat → Int64} {M_node : Nat → Int64} {M_nodeVariable : Nat → Int32} {M_nodeLow : Nat → Int32} {M_nodeHigh : Nat → Int32} {M_wait : Nat → Int32}  {k : Int32 → (Nat → Int64) → (Nat → Int64) → Prop}  (C0 : CX p s m args meth c b_M_follows 5 (some .int) R_M "follows" D ca tp A) :
    ∀ (n : Nat) (x4 : Int32) {H : Heap} {locs : List Loc} {ls : Array Slot}, p_M_follows_L94 M_end M_of M_first k n x4 → WH D A s (WM am ca M_clauses M_given M_end M_taped M_size M_at M_to M_sort M_worth M_faultKind M_faultPlace M_isTold M_nodes M_plain M_minus M_block M_left M_right M_pivot M_live M_needed M_label M_tape M_of M_kept M_had M_told M_first M_second M_node M_nodeVariable M_nodeLow M_nodeHigh M_wait) H locs → lv_has ls 5 [(0, .ref (am 0)), (4, .int x4)] →
      W p l e rm_M_follows s m args below meth c H locs 0 0 (QI D A below args s (fun r (u : (Nat → Int64) × (Nat → Int64)) => k r u.1 u.2) (fun (u : (Nat → Int64) × (Nat → Int64)) => WM am ca M_clauses M_given M_end M_taped M_size M_at M_to M_sort M_worth M_faultKind M_faultPlace M_isTold M_nodes M_plain M_minus M_block M_left M_right M_pivot M_live M_needed M_label M_tape u.1 M_kept M_had M_told u.2 M_second M_node M_nodeVariable M_nodeLow M_nodeHigh M_wait) 0 0) (F0 m 94 ls []) := by
  have hx := C0.1
  have hb := C0.2.1
  intro n
  induction n with
  | zero =>
    intro x4 H locs ls h
    exact False.elim h
  | succ n ih =>
    intro x4 H locs ls h hw hl
    unfold p_M_follows_L94 at h
    refine lv_iload hx hb d_M_follows_94 (lv_at hl 1 rfl) ?_
    refine lv_bipush (v := 16) hx hb d_M_follows_96 (by decide) ?_
    refine lv_icmp_ge (tgt := 141) hx hb d_M_follows_98 (by decide) (fun c_17 => ?_) (fun c_17 => ?_)
    · have h := h.1 c_17
      refine lv_iconst (v := 1) hx hb d_M_follows_141 (by decide) ?_
      exact x_iret C0 hw (M_of, M_first) h rfl d_M_follows_142
    · have h := h.2 c_17
      refine lv_aload_n hx hb d_M_follows_101 rfl (lv_at hl 0 rfl) ?_
      refine x_get C0 hw 0 rfl rfl i_M 26 (by decide) wm_751 rfl rfl d_M_follows_102 ?_
      refine lv_iload hx hb d_M_follows_105 (lv_at hl 1 rfl) ?_
      obtain ⟨hi_18, h⟩ := h
      refine x_lald C0 hw 15 rfl hi_18 d_M_follows_107 ?_
      refine lv_aload_n hx hb d_M_follows_108 rfl (lv_at hl 0 rfl) ?_
      refine x_get C0 hw 0 rfl rfl i_M 21 (by decide) wm_746 rfl rfl d_M_follows_109 ?_
      refine lv_bipush (v := 16) hx hb d_M_follows_112 (by decide) ?_
      refine lv_aload_n hx hb d_M_follows_114 rfl (lv_at hl 0 rfl) ?_
      refine x_get C0 hw 0 rfl rfl i_M 10 (by decide) wm_735 rfl rfl d_M_follows_115 ?_
      refine lv_imul hx hb d_M_follows_118 ?_
      refine lv_iload hx hb d_M_follows_119 (lv_at hl 1 rfl) ?_
      refine lv_iadd hx hb d_M_follows_121 ?_
      obtain ⟨hi_19, h⟩ := h
      refine x_lald C0 hw 11 rfl hi_19 d_M_follows_122 ?_
      refine x_ldc2 C0 wm_943 d_M_follows_123 ?_
      refine lv_lxor hx hb d_M_follows_126 ?_
      refine lv_land hx hb d_M_follows_127 ?_
      refine lv_lconst (v := 0) hx hb d_M_follows_128 (by decide) ?_
      refine W.lcmp hx hb d_M_follows_129 ?_
      refine lv_if_eq (tgt := 135) hx hb d_M_follows_130 (by decide) (fun c_20 => ?_) (fun c_20 => ?_)
      · have h := h.1 c_20
        refine lv_iinc (v := (x4 + 1)) (lv' := [(4, .int (x4 + 1)), (0, .ref (am 0))]) hx hb d_M_follows_135 hl (k := 1) rfl rfl (by decide) rfl (fun ls hl => ?_)
        refine lv_goto (tgt := 94) hx hb d_M_follows_138 (by decide) ?_
        exact ih _ h hw (lv_sub hl [1, 0] rfl)
      · have h := h.2 c_20
        refine lv_iconst (v := 0) hx hb d_M_follows_133 (by decide) ?_
        exact x_iret C0 hw (M_of, M_first) h rfl d_M_follows_134
set_option maxHeartbeats 4000000 in
set_option maxRecDepth 100000 in
theorem c_M_follows {l : Launch} {D : va_G} {ca : Nat → ClassId} {tp : Nat} {am : Nat → Nat} {M_clauses : Int32} {M_given : Int32} {M_end : Int32} {M_taped : Int32} {M_size : Int32} {M_at : Int32} {M_to : Int32} {M_sort : Int32} {M_worth : Int32} {M_faultKind : Int32} {M_faultPlace : Int32} {M_isTold : Int32} {M_nodes : Int32} {M_plain : Nat → Int32} {M_minus : Nat → Int32} {M_block : Nat → Int32} {M_left : Nat → Int32} {M_right : Nat → Int32} {M_pivot : Nat → Int32} {M_live : Nat → Int32} {M_needed : Nat → Int32} {M_label : Nat → Int32} {M_tape : Nat → Int32} {M_of : Nat → Int64} {M_kept : Nat → Int64} {M_had : Nat → Int32} {M_told : Nat → Int64} {M_first : Nat → Int64} {M_second : Nat → Int64} {M_node : Nat → Int64} {M_nodeVariable : Nat → Int32} {M_nodeLow : Nat → Int32} {M_nodeHigh : Nat → Int32} {M_wait : Nat → Int32} {x1 : Int32} {x2 : Int32} {x3 : Int32} {k : Int32 → (Nat → Int64) → (Nat → Int64) → Prop} (h : p_M_follows M_clauses M_end M_plain M_minus M_block M_left M_right M_pivot M_needed M_label M_of M_first x1 x2 x3 k) :
    MTi l y_M_follows b_M_follows 5 (some .int) rm_M_follows D ca tp [.ref (am 0), .int x1, .int x2, .int x3] (WM am ca M_clauses M_given M_end M_taped M_size M_at M_to M_sort M_worth M_faultKind M_faultPlace M_isTold M_nodes M_plain M_minus M_block M_left M_right M_pivot M_live M_needed M_label M_tape M_of M_kept M_had M_told M_first M_second M_node M_nodeVariable M_nodeLow M_nodeHigh M_wait)
      (fun r (u : (Nat → Int64) × (Nat → Int64)) => k r u.1 u.2)
      (fun (u : (Nat → Int64) × (Nat → Int64)) => WM am ca M_clauses M_given M_end M_taped M_size M_at M_to M_sort M_worth M_faultKind M_faultPlace M_isTold M_nodes M_plain M_minus M_block M_left M_right M_pivot M_live M_needed M_label M_tape u.1 M_kept M_had M_told u.2 M_second M_node M_nodeVariable M_nodeLow M_nodeHigh M_wait) 0 0 := by
  refine x_entryi (own := R_M) (nm := "follows") (by decide) rfl rfl (Nat.le_of_ble_eq_true rfl) (fun p e s m below meth c A ls C0 hw hl => ?_)
  have hx := C0.1
  have hb := C0.2.1
  have hl : lv_has ls 5 [(0, .ref (am 0)), (1, .int x1), (2, .int x2), (3, .int x3)] := hl
  unfold p_M_follows at h
  refine lv_iload_n hx hb d_M_follows_0 rfl (lv_at hl 1 rfl) ?_
  refine lv_iconst (v := 1) hx hb d_M_follows_1 (by decide) ?_
  refine lv_bipush (v := 7) hx hb d_M_follows_2 (by decide) ?_
  refine x_callSi C0 hw hl (c_M_in h) g_M_in wm_891 wm_892 (As := [.int x1, .int (1 : Int32), .int (7 : Int32)]) (rest := []) rfl rfl (Nat.le_of_ble_eq_true rfl) ⟨rfl, rfl⟩ ⟨Nat.le_of_ble_eq_true rfl, Nat.le_of_ble_eq_true rfl⟩ ⟨Nat.le_of_ble_eq_true rfl, Nat.le_of_ble_eq_true rfl⟩ d_M_follows_4 (fun r_1 u H locs h hw => ?_)
  refine lv_if_eq (tgt := 28) hx hb d_M_follows_7 (by decide) (fun c_2 => ?_) (fun c_2 => ?_)
  · have h := h.1 c_2
    refine lv_bipush (v := -2) hx hb d_M_follows_28 (by decide) ?_
    exact x_iret C0 hw (M_of, M_first) h rfl d_M_follows_30
  · have h := h.2 c_2
    refine lv_iload_n hx hb d_M_follows_10 rfl (lv_at hl 2 rfl) ?_
    refine lv_iconst (v := 0) hx hb d_M_follows_11 (by decide) ?_
    refine lv_iconst (v := 3) hx hb d_M_follows_12 (by decide) ?_
    refine x_callSi C0 hw hl (c_M_in h) g_M_in wm_891 wm_892 (As := [.int x2, .int (0 : Int32), .int (3 : Int32)]) (rest := []) rfl rfl (Nat.le_of_ble_eq_true rfl) ⟨rfl, rfl⟩ ⟨Nat.le_of_ble_eq_true rfl, Nat.le_of_ble_eq_true rfl⟩ ⟨Nat.le_of_ble_eq_true rfl, Nat.le_of_ble_eq_true rfl⟩ d_M_follows_13 (fun r_3 u H locs h hw => ?_)
    refine lv_if_eq (tgt := 28) hx hb d_M_follows_16 (by decide) (fun c_4 => ?_) (fun c_4 => ?_)
    · have h := h.1 c_4
      refine lv_bipush (v := -2) hx hb d_M_follows_28 (by decide) ?_
      exact x_iret C0 hw (M_of, M_first) h rfl d_M_follows_30
    · have h := h.2 c_4
      refine lv_iload_n hx hb d_M_follows_19 rfl (lv_at hl 3 rfl) ?_
      refine lv_iconst (v := 0) hx hb d_M_follows_20 (by decide) ?_
      refine lv_iconst (v := 3) hx hb d_M_follows_21 (by decide) ?_
      refine x_callSi C0 hw hl (c_M_in h) g_M_in wm_891 wm_892 (As := [.int x3, .int (0 : Int32), .int (3 : Int32)]) (rest := []) rfl rfl (Nat.le_of_ble_eq_true rfl) ⟨rfl, rfl⟩ ⟨Nat.le_of_ble_eq_true rfl, Nat.le_of_ble_eq_true rfl⟩ ⟨Nat.le_of_ble_eq_true rfl, Nat.le_of_ble_eq_true rfl⟩ d_M_follows_22 (fun r_5 u H locs h hw => ?_)
      refine lv_if_ne (tgt := 31) hx hb d_M_follows_25 (by decide) (fun c_6 => ?_) (fun c_6 => ?_)
      · have h := h.1 c_6
        refine lv_aload_n hx hb d_M_follows_31 rfl (lv_at hl 0 rfl) ?_
        refine x_get C0 hw 0 rfl rfl i_M 10 (by decide) wm_735 rfl rfl d_M_follows_32 ?_
        refine lv_iconst (v := -1) hx hb d_M_follows_35 (by decide) ?_
        refine lv_icmp_ne (tgt := 41) hx hb d_M_follows_36 (by decide) (fun c_7 => ?_) (fun c_7 => ?_)
        · have h := h.1 c_7
          refine lv_aload_n hx hb d_M_follows_41 rfl (lv_at hl 0 rfl) ?_
          refine lv_iload_n hx hb d_M_follows_42 rfl (lv_at hl 1 rfl) ?_
          refine lv_iload_n hx hb d_M_follows_43 rfl (lv_at hl 2 rfl) ?_
          refine x_callVv C0 hw hl (c_M_partials h) g_M_partials wm_922 ⟨wm_44, wm_924⟩ 0 rfl rfl rfl (As := [.int x1, .int x2]) (rest := []) rfl rfl (Nat.le_of_ble_eq_true rfl) ⟨rfl, rfl⟩ ⟨Nat.le_of_ble_eq_true rfl, Nat.le_of_ble_eq_true rfl⟩ ⟨Nat.le_of_ble_eq_true rfl, Nat.le_of_ble_eq_true rfl⟩ d_M_follows_44 (fun u H locs h hw => ?_)
          obtain ⟨M_of_8, rfl⟩ : ∃ z, z = u := ⟨_, rfl⟩
          refine lv_iconst (v := 0) hx hb d_M_follows_47 (by decide) ?_
          refine lv_istore (lv' := [(4, .int (0 : Int32)), (0, .ref (am 0)), (1, .int x1), (2, .int x2), (3, .int x3)]) hx hb d_M_follows_48 hl (by decide) rfl (fun ls hl => ?_)
          obtain ⟨j_22, h⟩ := h
          refine b_M_follows_L50 C0 _ _ _ h hw (lv_sub hl [1, 2, 4, 0] rfl) (fun M_first_14 H locs ls h hw hl => ?_)
          refine lv_aload_n hx hb d_M_follows_85 rfl (lv_at hl 0 rfl) ?_
          refine lv_iload_n hx hb d_M_follows_86 rfl (lv_at hl 1 rfl) ?_
          refine lv_iload_n hx hb d_M_follows_87 rfl (lv_at hl 2 rfl) ?_
          refine x_callVv C0 hw hl (c_M_partials h) g_M_partials wm_922 ⟨wm_44, wm_924⟩ 0 rfl rfl rfl (As := [.int x1, .int x3]) (rest := []) rfl rfl (Nat.le_of_ble_eq_true rfl) ⟨rfl, rfl⟩ ⟨Nat.le_of_ble_eq_true rfl, Nat.le_of_ble_eq_true rfl⟩ ⟨Nat.le_of_ble_eq_true rfl, Nat.le_of_ble_eq_true rfl⟩ d_M_follows_88 (fun u H locs h hw => ?_)
          obtain ⟨M_of_15, rfl⟩ : ∃ z, z = u := ⟨_, rfl⟩
          refine lv_iconst (v := 0) hx hb d_M_follows_91 (by decide) ?_
          refine lv_istore (lv' := [(4, .int (0 : Int32)), (0, .ref (am 0)), (1, .int x1), (3, .int x3)]) hx hb d_M_follows_92 hl (by decide) rfl (fun ls hl => ?_)
          obtain ⟨j_21, h⟩ := h
          refine b_M_follows_L94 C0 _ _ h hw (lv_sub hl [1, 0] rfl)
        · have h := h.2 c_7
          refine lv_iconst (v := -1) hx hb d_M_follows_39 (by decide) ?_
          exact x_iret C0 hw (M_of, M_first) h rfl d_M_follows_40
      · have h := h.2 c_6
        refine lv_bipush (v := -2) hx hb d_M_follows_28 (by decide) ?_
        exact x_iret C0 hw (M_of, M_first) h rfl d_M_follows_30
theorem g_M_gap : GY y_M_gap b_M_gap 8 (some .int) 3 := ⟨wm_986, wm_62, by decide +kernel, by decide +kernel, by decide +kernel⟩
def p_M_gap_L44 (k65 : (Nat → Int64) → Prop) : Nat → Int32 → (Nat → Int64) → Prop
  | 0, _, _ => False
  | n + 1, x4, M_second =>
    (((16 : Int32) ≤ x4 → (k65 M_second)) ∧ (¬ (16 : Int32) ≤ x4 → (vp_in x4 16 ∧ (p_M_gap_L44 k65 n (x4 + 1) (vp_updL M_second x4.toNatClampNeg (0 : Int64))))))
def p_M_gap_L134 (M_clauses : Int32) (M_end : Int32) (M_plain : Nat → Int32) (M_minus : Nat → Int32) (M_block : Nat → Int32) (M_label : Nat → Int32) (M_of : Nat → Int64) (M_second : Nat → Int64) (x1 : Int32) (x3 : Int32) (k : Int32 → (Nat → Int64) → (Nat → Int64) → Prop) : Nat → Int32 → Int32 → Prop
  | 0, _, _ => False
  | n + 1, x4, x5 =>
    (((16 : Int32) ≤ x5 → (k x4 M_of M_second)) ∧ (¬ (16 : Int32) ≤ x5 → (vp_in (((16 : Int32) * M_end) + x5) 3232 ∧ (∀ v6_16 : Int64, v6_16 = (M_of (((16 : Int32) * M_end) + x5).toNatClampNeg) → ((¬ x3 = 0 → ((¬ x3 = (1 : Int32) → (p_M_product M_clauses M_plain M_minus M_block M_label (x1 + (1 : Int32)) (x1 + (1 : Int32)) x5 (fun (r_19 : Int64) => (vp_in x5 16 ∧ (p_M_ones ((v6_16 &&& r_19) &&& ((M_second x5.toNatClampNeg) ^^^ (-1 : Int64))) (fun (r_21 : Int32) => (p_M_gap_L134 M_clauses M_end M_plain M_minus M_block M_label M_of M_second x1 x3 k n (x4 + r_21) (x5 + 1)))))))) ∧ (x3 = (1 : Int32) → (p_M_product M_clauses M_plain M_minus M_block M_label (x1 + (1 : Int32)) (8 : Int32) x5 (fun (r_22 : Int64) => (p_M_ones (r_22 &&& v6_16) (fun (r_23 : Int32) => (p_M_gap_L134 M_clauses M_end M_plain M_minus M_block M_label M_of M_second x1 x3 k n (x4 + r_23) (x5 + 1))))))))) ∧ (x3 = 0 → (p_M_product M_clauses M_plain M_minus M_block M_label (1 : Int32) x1 x5 (fun (r_24 : Int64) => (p_M_ones (r_24 &&& (v6_16 ^^^ (-1 : Int64))) (fun (r_25 : Int32) => (p_M_gap_L134 M_clauses M_end M_plain M_minus M_block M_label M_of M_second x1 x3 k n (x4 + r_25) (x5 + 1))))))))))))
def p_M_gap_J122 (M_clauses : Int32) (M_end : Int32) (M_plain : Nat → Int32) (M_minus : Nat → Int32) (M_block : Nat → Int32) (M_left : Nat → Int32) (M_right : Nat → Int32) (M_pivot : Nat → Int32) (M_needed : Nat → Int32) (M_label : Nat → Int32) (k : Int32 → (Nat → Int64) → (Nat → Int64) → Prop) (x1 : Int32) (x2 : Int32) (x3 : Int32) (M_of : Nat → Int64) (M_second : Nat → Int64) : Prop :=
  (p_M_partials M_clauses M_plain M_minus M_block M_left M_right M_pivot M_needed M_label M_of x1 x2 (fun (M_of_12 : Nat → Int64) => (∃ j_26, p_M_gap_L134 M_clauses M_end M_plain M_minus M_block M_label M_of_12 M_second x1 x3 k j_26 (0 : Int32) (0 : Int32))))
def p_M_gap_L87 (M_end : Int32) (M_of : Nat → Int64) (k122 : (Nat → Int64) → Prop) : Nat → Int32 → (Nat → Int64) → Prop
  | 0, _, _ => False
  | n + 1, x4, M_second =>
    (((16 : Int32) ≤ x4 → (k122 M_second)) ∧ (¬ (16 : Int32) ≤ x4 → (vp_in (((16 : Int32) * M_end) + x4) 3232 ∧ (vp_in x4 16 ∧ (∀ v_M_second_33 : Int64, v_M_second_33 = (M_of (((16 : Int32) * M_end) + x4).toNatClampNeg) → (p_M_gap_L87 M_end M_of k122 n (x4 + 1) (vp_updL M_second x4.toNatClampNeg v_M_second_33)))))))
def p_M_gap (M_clauses : Int32) (M_end : Int32) (M_plain : Nat → Int32) (M_minus : Nat → Int32) (M_block : Nat → Int32) (M_left : Nat → Int32) (M_right : Nat → Int32) (M_pivot : Nat → Int32) (M_needed : Nat → Int32) (M_label : Nat → Int32) (M_of : Nat → Int64) (M_second : Nat → Int64) (x1 : Int32) (x2 : Int32) (x3 : Int32) (k : Int32 → (Nat → Int64) → (Nat → Int64) → Prop) : Prop :=
  (p_M_in x1 (1 : Int32) (7 : Int32) (fun (r_1 : Int32) => ((r_1 = 0 → (k (-2 : Int32) M_of M_second)) ∧ (¬ r_1 = 0 → (p_M_in x2 (0 : Int32) (3 : Int32) (fun (r_3 : Int32) => ((¬ r_3 = 0 → ((M_end = (-1 : Int32) → (k (-1 : Int32) M_of M_second)) ∧ (¬ M_end = (-1 : Int32) → (p_M_in x3 (0 : Int32) (2 : Int32) (fun (r_6 : Int32) => ((¬ r_6 = 0 → (∃ j_36, p_M_gap_L44 (fun (M_second_10 : Nat → Int64) => ((¬ x3 = (2 : Int32) → (p_M_gap_J122 M_clauses M_end M_plain M_minus M_block M_left M_right M_pivot M_needed M_label k x1 x2 x3 M_of M_second_10)) ∧ (x3 = (2 : Int32) → (((7 : Int32) ≤ x1 → (p_M_gap_J122 M_clauses M_end M_plain M_minus M_block M_left M_right M_pivot M_needed M_label k x1 x2 x3 M_of M_second_10)) ∧ (¬ (7 : Int32) ≤ x1 → (p_M_partials M_clauses M_plain M_minus M_block M_left M_right M_pivot M_needed M_label M_of (x1 + (1 : Int32)) x2 (fun (M_of_28 : Nat → Int64) => (∃ j_35, p_M_gap_L87 M_end M_of_28 (fun (M_second_34 : Nat → Int64) => (p_M_gap_J122 M_clauses M_end M_plain M_minus M_block M_left M_right M_pivot M_needed M_label k x1 x2 x3 M_of_28 M_second_34)) j_35 (0 : Int32) M_second_10)))))))) j_36 (0 : Int32) M_second)) ∧ (r_6 = 0 → (k (-1 : Int32) M_of M_second)))))))) ∧ (r_3 = 0 → (k (-2 : Int32) M_of M_second)))))))))
abbrev rm_M_gap : Room := { frames := 3, cells := 0, slots := 0, locals := 89 }
set_option maxHeartbeats 4000000 in
set_option maxRecDepth 100000 in
theorem b_M_gap_L44 {p : Program} {l : Launch} {e : Env} {s : State} {m : MethodId} {args : Array Value} {below : List Frame} {meth : Method} {c : Code} {D : va_G} {ca : Nat → ClassId} {tp : Nat} {A : Nat → Prop} {am : Nat → Nat} {M_clauses : Int32} {M_given : Int32} {M_end : Int32} {M_taped : Int32} {M_size : Int32} {M_at : Int32} {M_to : Int32} {M_sort : Int32} {M_worth : Int32} {M_faultKind : Int32} {M_faultPlace : Int32} {M_isTold : Int32} {M_nodes : Int32} {M_plain : Nat → Int32} {M_minus : Nat → Int32} {M_block : Nat → Int32} {M_left : Nat → Int32} {M_right : Nat → Int32} {M_pivot : Nat → Int32} {M_live : Nat → Int32} {M_needed : Nat → Int32} {M_label : Nat → Int32} {M_tape : Nat → Int32} {M_of : Nat → Int64} {M_kept : Nat → Int64} {M_had : Nat → Int32} {M_told : Nat → Int64} {M_first : Nat → Int64} {M_node : Nat → Int64} {M_nodeVariable : Nat → Int32} {M_nodeLow : Nat → Int32} {M_nodeHigh : Nat → Int32} {M_wait : Nat → Int32} {x1 : Int32} {x2 : Int32} {x3 : Int32} {k : Int32 → (Nat → Int64) → (Nat → Int64) → Prop} {k65 : (Nat → Int64) → Prop} (C0 : CX p s m args meth c b_M_gap 8 (some .int) R_M "gap" D ca tp A) :
    ∀ (n : Nat) (x4 : Int32) (M_second : Nat → Int64) {H : Heap} {locs : List Loc} {ls : Array Slot}, p_M_gap_L44 k65 n x4 M_second → WH D A s (WM am ca M_clauses M_given M_end M_taped M_size M_at M_to M_sort M_worth M_faultKind M_faultPlace M_isTold M_nodes M_plain M_minus M_block M_left M_right M_pivot M_live M_needed M_label M_tape M_of M_kept M_had M_told M_first M_second M_node M_nodeVariable M_nodeLow M_nodeHigh M_wait) H locs → lv_has ls 8 [(0, .ref (am 0)), (1, .int x1), (2, .int x2), (3, .int x3), (4, .int x4)] →
      (∀ (M_second : Nat → Int64) (H : Heap) (locs : List Loc) (ls : Array Slot), k65 M_second → WH D A s (WM am ca M_clauses M_given M_end M_taped M_size M_at M_to M_sort M_worth M_faultKind M_faultPlace M_isTold M_nodes M_plain M_minus M_block M_left M_right M_pivot M_live M_needed M_label M_tape M_of M_kept M_had M_told M_first M_second M_node M_nodeVariable M_nodeLow M_nodeHigh M_wait) H locs → lv_has ls 8 [(0, .ref (am 0)), (1, .int x1), (2, .int x2), (3, .int x3)] → W p l e rm_M_gap s m args below meth c H locs 0 0 (QI D A below args s (fun r (u : (Nat → Int64) × (Nat → Int64)) => k r u.1 u.2) (fun (u : (Nat → Int64) × (Nat → Int64)) => WM am ca M_clauses M_given M_end M_taped M_size M_at M_to M_sort M_worth M_faultKind M_faultPlace M_isTold M_nodes M_plain M_minus M_block M_left M_right M_pivot M_live M_needed M_label M_tape u.1 M_kept M_had M_told M_first u.2 M_node M_nodeVariable M_nodeLow M_nodeHigh M_wait) 0 0) (F0 m 65 ls [])) →
      W p l e rm_M_gap s m args below meth c H locs 0 0 (QI D A below args s (fun r (u : (Nat → Int64) × (Nat → Int64)) => k r u.1 u.2) (fun (u : (Nat → Int64) × (Nat → Int64)) => WM am ca M_clauses M_given M_end M_taped M_size M_at M_to M_sort M_worth M_faultKind M_faultPlace M_isTold M_nodes M_plain M_minus M_block M_left M_right M_pivot M_live M_needed M_label M_tape u.1 M_kept M_had M_told M_first u.2 M_node M_nodeVariable M_nodeLow M_nodeHigh M_wait) 0 0) (F0 m 44 ls []) := by
  have hx := C0.1
  have hb := C0.2.1
  intro n
  induction n with
  | zero =>
    intro x4 M_second H locs ls h
    exact False.elim h
  | succ n ih =>
    intro x4 M_second H locs ls h hw hl h65
    unfold p_M_gap_L44 at h
    refine lv_iload hx hb d_M_gap_44 (lv_at hl 4 rfl) ?_
    refine lv_bipush (v := 16) hx hb d_M_gap_46 (by decide) ?_
    refine lv_icmp_ge (tgt := 65) hx hb d_M_gap_48 (by decide) (fun c_8 => ?_) (fun c_8 => ?_)
    · have h := h.1 c_8
      exact h65 _ _ _ _ h hw (lv_sub hl [0, 1, 2, 3] rfl)
    · have h := h.2 c_8
      refine lv_aload_n hx hb d_M_gap_51 rfl (lv_at hl 0 rfl) ?_
      refine x_get C0 hw 0 rfl rfl i_M 27 (by decide) wm_752 rfl rfl d_M_gap_52 ?_
      refine lv_iload hx hb d_M_gap_55 (lv_at hl 4 rfl) ?_
      refine lv_lconst (v := 0) hx hb d_M_gap_57 (by decide) ?_
      obtain ⟨hi_9, h⟩ := h
      refine x_last C0 hw 16 rfl hi_9 (ws' := WM am ca M_clauses M_given M_end M_taped M_size M_at M_to M_sort M_worth M_faultKind M_faultPlace M_isTold M_nodes M_plain M_minus M_block M_left M_right M_pivot M_live M_needed M_label M_tape M_of M_kept M_had M_told M_first (vp_updL M_second x4.toNatClampNeg (0 : Int64)) M_node M_nodeVariable M_nodeLow M_nodeHigh M_wait) rfl d_M_gap_58 (fun H locs hw => ?_)
      refine lv_iinc (v := (x4 + 1)) (lv' := [(4, .int (x4 + 1)), (0, .ref (am 0)), (1, .int x1), (2, .int x2), (3, .int x3)]) hx hb d_M_gap_59 hl (k := 4) rfl rfl (by decide) rfl (fun ls hl => ?_)
      refine lv_goto (tgt := 44) hx hb d_M_gap_62 (by decide) ?_
      exact ih _ _ h hw (lv_sub hl [1, 2, 3, 4, 0] rfl) h65
set_option maxHeartbeats 4000000 in
set_option maxRecDepth 100000 in
theorem b_M_gap_L134 {p : Program} {l : Launch} {e : Env} {s : State} {m : MethodId} {args : Array Value} {below : List Frame} {meth : Method} {c : Code} {D : va_G} {ca : Nat → ClassId} {tp : Nat} {A : Nat → Prop} {am : Nat → Nat} {M_clauses : Int32} {M_given : Int32} {M_end : Int32} {M_taped : Int32} {M_size : Int32} {M_at : Int32} {M_to : Int32} {M_sort : Int32} {M_worth : Int32} {M_faultKind : Int32} {M_faultPlace : Int32} {M_isTold : Int32} {M_nodes : Int32} {M_plain : Nat → Int32} {M_minus : Nat → Int32} {M_block : Nat → Int32} {M_left : Nat → Int32} {M_right : Nat → Int32} {M_pivot : Nat → Int32} {M_live : Nat → Int32} {M_needed : Nat → Int32} {M_label : Nat → Int32} {M_tape : Nat → Int32} {M_of : Nat → Int64} {M_kept : Nat → Int64} {M_had : Nat → Int32} {M_told : Nat → Int64} {M_first : Nat → Int64} {M_second : Nat → Int64} {M_node : Nat → Int64} {M_nodeVariable : Nat → Int32} {M_nodeLow : Nat → Int32} {M_nodeHigh : Nat → Int32} {M_wait : Nat → Int32} {x1 : Int32} {x3 : Int32} {k : Int32 → (Nat → Int64) → (Nat → Int64) → Prop}  (C0 : CX p s m args meth c b_M_gap 8 (some .int) R_M "gap" D ca tp A) :
    ∀ (n : Nat) (x4 : Int32) (x5 : Int32) {H : Heap} {locs : List Loc} {ls : Array Slot}, p_M_gap_L134 M_clauses M_end M_plain M_minus M_block M_label M_of M_second x1 x3 k n x4 x5 → WH D A s (WM am ca M_clauses M_given M_end M_taped M_size M_at M_to M_sort M_worth M_faultKind M_faultPlace M_isTold M_nodes M_plain M_minus M_block M_left M_right M_pivot M_live M_needed M_label M_tape M_of M_kept M_had M_told M_first M_second M_node M_nodeVariable M_nodeLow M_nodeHigh M_wait) H locs → lv_has ls 8 [(0, .ref (am 0)), (1, .int x1), (3, .int x3), (4, .int x4), (5, .int x5)] →
      W p l e rm_M_gap s m args below meth c H locs 0 0 (QI D A below args s (fun r (u : (Nat → Int64) × (Nat → Int64)) => k r u.1 u.2) (fun (u : (Nat → Int64) × (Nat → Int64)) => WM am ca M_clauses M_given M_end M_taped M_size M_at M_to M_sort M_worth M_faultKind M_faultPlace M_isTold M_nodes M_plain M_minus M_block M_left M_right M_pivot M_live M_needed M_label M_tape u.1 M_kept M_had M_told M_first u.2 M_node M_nodeVariable M_nodeLow M_nodeHigh M_wait) 0 0) (F0 m 134 ls []) := by
  have hx := C0.1
  have hb := C0.2.1
  intro n
  induction n with
  | zero =>
    intro x4 x5 H locs ls h
    exact False.elim h
  | succ n ih =>
    intro x4 x5 H locs ls h hw hl
    unfold p_M_gap_L134 at h
    refine lv_iload hx hb d_M_gap_134 (lv_at hl 4 rfl) ?_
    refine lv_bipush (v := 16) hx hb d_M_gap_136 (by decide) ?_
    refine lv_icmp_ge (tgt := 259) hx hb d_M_gap_138 (by decide) (fun c_14 => ?_) (fun c_14 => ?_)
    · have h := h.1 c_14
      refine lv_iload hx hb d_M_gap_259 (lv_at hl 3 rfl) ?_
      exact x_iret C0 hw (M_of, M_second) h rfl d_M_gap_261
    · have h := h.2 c_14
      refine lv_aload_n hx hb d_M_gap_141 rfl (lv_at hl 0 rfl) ?_
      refine x_get C0 hw 0 rfl rfl i_M 21 (by decide) wm_746 rfl rfl d_M_gap_142 ?_
      refine lv_bipush (v := 16) hx hb d_M_gap_145 (by decide) ?_
      refine lv_aload_n hx hb d_M_gap_147 rfl (lv_at hl 0 rfl) ?_
      refine x_get C0 hw 0 rfl rfl i_M 10 (by decide) wm_735 rfl rfl d_M_gap_148 ?_
      refine lv_imul hx hb d_M_gap_151 ?_
      refine lv_iload hx hb d_M_gap_152 (lv_at hl 4 rfl) ?_
      refine lv_iadd hx hb d_M_gap_154 ?_
      obtain ⟨hi_15, h⟩ := h
      refine x_lald C0 hw 11 rfl hi_15 d_M_gap_155 ?_
      refine lv_topl (fun v6_16 e_v6_16 => ?_)
      have h := h v6_16 e_v6_16
      refine lv_lstore (lv' := [(6, .long v6_16), (0, .ref (am 0)), (1, .int x1), (3, .int x3), (4, .int x4), (5, .int x5)]) hx hb d_M_gap_156 hl (by decide) rfl (fun ls hl => ?_)
      refine lv_iload_n hx hb d_M_gap_158 rfl (lv_at hl 3 rfl) ?_
      refine lv_if_ne (tgt := 188) hx hb d_M_gap_159 (by decide) (fun c_17 => ?_) (fun c_17 => ?_)
      · have h := h.1 c_17
        refine lv_iload_n hx hb d_M_gap_188 rfl (lv_at hl 3 rfl) ?_
        refine lv_iconst (v := 1) hx hb d_M_gap_189 (by decide) ?_
        refine lv_icmp_ne (tgt := 218) hx hb d_M_gap_190 (by decide) (fun c_18 => ?_) (fun c_18 => ?_)
        · have h := h.1 c_18
          refine lv_iload hx hb d_M_gap_218 (lv_at hl 4 rfl) ?_
          refine lv_lload hx hb d_M_gap_220 (lv_at hl 0 rfl) ?_
          refine lv_aload_n hx hb d_M_gap_222 rfl (lv_at hl 1 rfl) ?_
          refine lv_iload_n hx hb d_M_gap_223 rfl (lv_at hl 2 rfl) ?_
          refine lv_iconst (v := 1) hx hb d_M_gap_224 (by decide) ?_
          refine lv_iadd hx hb d_M_gap_225 ?_
          refine lv_iload_n hx hb d_M_gap_226 rfl (lv_at hl 2 rfl) ?_
          refine lv_iconst (v := 1) hx hb d_M_gap_227 (by decide) ?_
          refine lv_iadd hx hb d_M_gap_228 ?_
          refine lv_iload hx hb d_M_gap_229 (lv_at hl 5 rfl) ?_
          refine x_callVl C0 hw hl (c_M_product h) g_M_product wm_987 ⟨wm_51, wm_989⟩ 0 rfl rfl rfl (As := [.int (x1 + (1 : Int32)), .int (x1 + (1 : Int32)), .int x5]) (rest := [.long v6_16, .int x4]) rfl rfl (Nat.le_of_ble_eq_true rfl) ⟨rfl, rfl⟩ ⟨Nat.le_of_ble_eq_true rfl, Nat.le_of_ble_eq_true rfl⟩ ⟨Nat.le_of_ble_eq_true rfl, Nat.le_of_ble_eq_true rfl⟩ d_M_gap_231 (fun r_19 u H locs h hw => ?_)
          refine lv_land hx hb d_M_gap_234 ?_
          refine lv_aload_n hx hb d_M_gap_235 rfl (lv_at hl 1 rfl) ?_
          refine x_get C0 hw 0 rfl rfl i_M 27 (by decide) wm_752 rfl rfl d_M_gap_236 ?_
          refine lv_iload hx hb d_M_gap_239 (lv_at hl 5 rfl) ?_
          obtain ⟨hi_20, h⟩ := h
          refine x_lald C0 hw 16 rfl hi_20 d_M_gap_241 ?_
          refine x_ldc2 C0 wm_943 d_M_gap_242 ?_
          refine lv_lxor hx hb d_M_gap_245 ?_
          refine lv_land hx hb d_M_gap_246 ?_
          refine x_callSi C0 hw hl (c_M_ones h) g_M_ones wm_972 wm_973 (As := [.long ((v6_16 &&& r_19) &&& ((M_second x5.toNatClampNeg) ^^^ (-1 : Int64)))]) (rest := [.int x4]) rfl rfl (Nat.le_of_ble_eq_true rfl) ⟨rfl, rfl⟩ ⟨Nat.le_of_ble_eq_true rfl, Nat.le_of_ble_eq_true rfl⟩ ⟨Nat.le_of_ble_eq_true rfl, Nat.le_of_ble_eq_true rfl⟩ d_M_gap_247 (fun r_21 u H locs h hw => ?_)
          refine lv_iadd hx hb d_M_gap_250 ?_
          refine lv_istore (lv' := [(4, .int (x4 + r_21)), (6, .long v6_16), (0, .ref (am 0)), (1, .int x1), (3, .int x3), (5, .int x5)]) hx hb d_M_gap_251 hl (by decide) rfl (fun ls hl => ?_)
          refine lv_iinc (v := (x5 + 1)) (lv' := [(5, .int (x5 + 1)), (4, .int (x4 + r_21)), (6, .long v6_16), (0, .ref (am 0)), (1, .int x1), (3, .int x3)]) hx hb d_M_gap_253 hl (k := 5) rfl rfl (by decide) rfl (fun ls hl => ?_)
          refine lv_goto (tgt := 134) hx hb d_M_gap_256 (by decide) ?_
          exact ih _ _ h hw (lv_sub hl [3, 4, 5, 1, 0] rfl)
        · have h := h.2 c_18
          refine lv_iload hx hb d_M_gap_193 (lv_at hl 4 rfl) ?_
          refine lv_aload_n hx hb d_M_gap_195 rfl (lv_at hl 1 rfl) ?_
          refine lv_iload_n hx hb d_M_gap_196 rfl (lv_at hl 2 rfl) ?_
          refine lv_iconst (v := 1) hx hb d_M_gap_197 (by decide) ?_
          refine lv_iadd hx hb d_M_gap_198 ?_
          refine lv_bipush (v := 8) hx hb d_M_gap_199 (by decide) ?_
          refine lv_iload hx hb d_M_gap_201 (lv_at hl 5 rfl) ?_
          refine x_callVl C0 hw hl (c_M_product h) g_M_product wm_987 ⟨wm_51, wm_989⟩ 0 rfl rfl rfl (As := [.int (x1 + (1 : Int32)), .int (8 : Int32), .int x5]) (rest := [.int x4]) rfl rfl (Nat.le_of_ble_eq_true rfl) ⟨rfl, rfl⟩ ⟨Nat.le_of_ble_eq_true rfl, Nat.le_of_ble_eq_true rfl⟩ ⟨Nat.le_of_ble_eq_true rfl, Nat.le_of_ble_eq_true rfl⟩ d_M_gap_203 (fun r_22 u H locs h hw => ?_)
          refine lv_lload hx hb d_M_gap_206 (lv_at hl 0 rfl) ?_
          refine lv_land hx hb d_M_gap_208 ?_
          refine x_callSi C0 hw hl (c_M_ones h) g_M_ones wm_972 wm_973 (As := [.long (r_22 &&& v6_16)]) (rest := [.int x4]) rfl rfl (Nat.le_of_ble_eq_true rfl) ⟨rfl, rfl⟩ ⟨Nat.le_of_ble_eq_true rfl, Nat.le_of_ble_eq_true rfl⟩ ⟨Nat.le_of_ble_eq_true rfl, Nat.le_of_ble_eq_true rfl⟩ d_M_gap_209 (fun r_23 u H locs h hw => ?_)
          refine lv_iadd hx hb d_M_gap_212 ?_
          refine lv_istore (lv' := [(4, .int (x4 + r_23)), (6, .long v6_16), (0, .ref (am 0)), (1, .int x1), (3, .int x3), (5, .int x5)]) hx hb d_M_gap_213 hl (by decide) rfl (fun ls hl => ?_)
          refine lv_goto (tgt := 253) hx hb d_M_gap_215 (by decide) ?_
          refine lv_iinc (v := (x5 + 1)) (lv' := [(5, .int (x5 + 1)), (4, .int (x4 + r_23)), (6, .long v6_16), (0, .ref (am 0)), (1, .int x1), (3, .int x3)]) hx hb d_M_gap_253 hl (k := 5) rfl rfl (by decide) rfl (fun ls hl => ?_)
          refine lv_goto (tgt := 134) hx hb d_M_gap_256 (by decide) ?_
          exact ih _ _ h hw (lv_sub hl [3, 4, 5, 1, 0] rfl)
      · have h := h.2 c_17
        refine lv_iload hx hb d_M_gap_162 (lv_at hl 4 rfl) ?_
        refine lv_aload_n hx hb d_M_gap_164 rfl (lv_at hl 1 rfl) ?_
        refine lv_iconst (v := 1) hx hb d_M_gap_165 (by decide) ?_
        refine lv_iload_n hx hb d_M_gap_166 rfl (lv_at hl 2 rfl) ?_
        refine lv_iload hx hb d_M_gap_167 (lv_at hl 5 rfl) ?_
        refine x_callVl C0 hw hl (c_M_product h) g_M_product wm_987 ⟨wm_51, wm_989⟩ 0 rfl rfl rfl (As := [.int (1 : Int32), .int x1, .int x5]) (rest := [.int x4]) rfl rfl (Nat.le_of_ble_eq_true rfl) ⟨rfl, rfl⟩ ⟨Nat.le_of_ble_eq_true rfl, Nat.le_of_ble_eq_true rfl⟩ ⟨Nat.le_of_ble_eq_true rfl, Nat.le_of_ble_eq_true rfl⟩ d_M_gap_169 (fun r_24 u H locs h hw => ?_)
        refine lv_lload hx hb d_M_gap_172 (lv_at hl 0 rfl) ?_
        refine x_ldc2 C0 wm_943 d_M_gap_174 ?_
        refine lv_lxor hx hb d_M_gap_177 ?_
        refine lv_land hx hb d_M_gap_178 ?_
        refine x_callSi C0 hw hl (c_M_ones h) g_M_ones wm_972 wm_973 (As := [.long (r_24 &&& (v6_16 ^^^ (-1 : Int64)))]) (rest := [.int x4]) rfl rfl (Nat.le_of_ble_eq_true rfl) ⟨rfl, rfl⟩ ⟨Nat.le_of_ble_eq_true rfl, Nat.le_of_ble_eq_true rfl⟩ ⟨Nat.le_of_ble_eq_true rfl, Nat.le_of_ble_eq_true rfl⟩ d_M_gap_179 (fun r_25 u H locs h hw => ?_)
        refine lv_iadd hx hb d_M_gap_182 ?_
        refine lv_istore (lv' := [(4, .int (x4 + r_25)), (6, .long v6_16), (0, .ref (am 0)), (1, .int x1), (3, .int x3), (5, .int x5)]) hx hb d_M_gap_183 hl (by decide) rfl (fun ls hl => ?_)
        refine lv_goto (tgt := 253) hx hb d_M_gap_185 (by decide) ?_
        refine lv_iinc (v := (x5 + 1)) (lv' := [(5, .int (x5 + 1)), (4, .int (x4 + r_25)), (6, .long v6_16), (0, .ref (am 0)), (1, .int x1), (3, .int x3)]) hx hb d_M_gap_253 hl (k := 5) rfl rfl (by decide) rfl (fun ls hl => ?_)
        refine lv_goto (tgt := 134) hx hb d_M_gap_256 (by decide) ?_
        exact ih _ _ h hw (lv_sub hl [3, 4, 5, 1, 0] rfl)
set_option maxHeartbeats 4000000 in
set_option maxRecDepth 100000 in
theorem b_M_gap_J122 {p : Program} {l : Launch} {e : Env} {s : State} {m : MethodId} {args : Array Value} {below : List Frame} {meth : Method} {c : Code} {D : va_G} {ca : Nat → ClassId} {tp : Nat} {A : Nat → Prop} {am : Nat → Nat} {M_clauses : Int32} {M_given : Int32} {M_end : Int32} {M_taped : Int32} {M_size : Int32} {M_at : Int32} {M_to : Int32} {M_sort : Int32} {M_worth : Int32} {M_faultKind : Int32} {M_faultPlace : Int32} {M_isTold : Int32} {M_nodes : Int32} {M_plain : Nat → Int32} {M_minus : Nat → Int32} {M_block : Nat → Int32} {M_left : Nat → Int32} {M_right : Nat → Int32} {M_pivot : Nat → Int32} {M_live : Nat → Int32} {M_needed : Nat → Int32} {M_label : Nat → Int32} {M_tape : Nat → Int32} {M_kept : Nat → Int64} {M_had : Nat → Int32} {M_told : Nat → Int64} {M_first : Nat → Int64} {M_node : Nat → Int64} {M_nodeVariable : Nat → Int32} {M_nodeLow : Nat → Int32} {M_nodeHigh : Nat → Int32} {M_wait : Nat → Int32}  {k : Int32 → (Nat → Int64) → (Nat → Int64) → Prop}  (C0 : CX p s m args meth c b_M_gap 8 (some .int) R_M "gap" D ca tp A) :
    ∀ (x1 : Int32) (x2 : Int32) (x3 : Int32) (M_of : Nat → Int64) (M_second : Nat → Int64) {H : Heap} {locs : List Loc} {ls : Array Slot}, p_M_gap_J122 M_clauses M_end M_plain M_minus M_block M_left M_right M_pivot M_needed M_label k x1 x2 x3 M_of M_second → WH D A s (WM am ca M_clauses M_given M_end M_taped M_size M_at M_to M_sort M_worth M_faultKind M_faultPlace M_isTold M_nodes M_plain M_minus M_block M_left M_right M_pivot M_live M_needed M_label M_tape M_of M_kept M_had M_told M_first M_second M_node M_nodeVariable M_nodeLow M_nodeHigh M_wait) H locs → lv_has ls 8 [(0, .ref (am 0)), (1, .int x1), (2, .int x2), (3, .int x3)] →
      W p l e rm_M_gap s m args below meth c H locs 0 0 (QI D A below args s (fun r (u : (Nat → Int64) × (Nat → Int64)) => k r u.1 u.2) (fun (u : (Nat → Int64) × (Nat → Int64)) => WM am ca M_clauses M_given M_end M_taped M_size M_at M_to M_sort M_worth M_faultKind M_faultPlace M_isTold M_nodes M_plain M_minus M_block M_left M_right M_pivot M_live M_needed M_label M_tape u.1 M_kept M_had M_told M_first u.2 M_node M_nodeVariable M_nodeLow M_nodeHigh M_wait) 0 0) (F0 m 122 ls []) := by
  have hx := C0.1
  have hb := C0.2.1
  intro x1 x2 x3 M_of M_second H locs ls h hw hl
  unfold p_M_gap_J122 at h
  refine lv_aload_n hx hb d_M_gap_122 rfl (lv_at hl 0 rfl) ?_
  refine lv_iload_n hx hb d_M_gap_123 rfl (lv_at hl 1 rfl) ?_
  refine lv_iload_n hx hb d_M_gap_124 rfl (lv_at hl 2 rfl) ?_
  refine x_callVv C0 hw hl (c_M_partials h) g_M_partials wm_922 ⟨wm_44, wm_924⟩ 0 rfl rfl rfl (As := [.int x1, .int x2]) (rest := []) rfl rfl (Nat.le_of_ble_eq_true rfl) ⟨rfl, rfl⟩ ⟨Nat.le_of_ble_eq_true rfl, Nat.le_of_ble_eq_true rfl⟩ ⟨Nat.le_of_ble_eq_true rfl, Nat.le_of_ble_eq_true rfl⟩ d_M_gap_125 (fun u H locs h hw => ?_)
  obtain ⟨M_of_12, rfl⟩ : ∃ z, z = u := ⟨_, rfl⟩
  refine lv_iconst (v := 0) hx hb d_M_gap_128 (by decide) ?_
  refine lv_istore (lv' := [(4, .int (0 : Int32)), (0, .ref (am 0)), (1, .int x1), (2, .int x2), (3, .int x3)]) hx hb d_M_gap_129 hl (by decide) rfl (fun ls hl => ?_)
  refine lv_iconst (v := 0) hx hb d_M_gap_131 (by decide) ?_
  refine lv_istore (lv' := [(5, .int (0 : Int32)), (4, .int (0 : Int32)), (0, .ref (am 0)), (1, .int x1), (2, .int x2), (3, .int x3)]) hx hb d_M_gap_132 hl (by decide) rfl (fun ls hl => ?_)
  obtain ⟨j_26, h⟩ := h
  refine b_M_gap_L134 C0 _ _ _ h hw (lv_sub hl [2, 3, 5, 1, 0] rfl)
set_option maxHeartbeats 4000000 in
set_option maxRecDepth 100000 in
theorem b_M_gap_L87 {p : Program} {l : Launch} {e : Env} {s : State} {m : MethodId} {args : Array Value} {below : List Frame} {meth : Method} {c : Code} {D : va_G} {ca : Nat → ClassId} {tp : Nat} {A : Nat → Prop} {am : Nat → Nat} {M_clauses : Int32} {M_given : Int32} {M_end : Int32} {M_taped : Int32} {M_size : Int32} {M_at : Int32} {M_to : Int32} {M_sort : Int32} {M_worth : Int32} {M_faultKind : Int32} {M_faultPlace : Int32} {M_isTold : Int32} {M_nodes : Int32} {M_plain : Nat → Int32} {M_minus : Nat → Int32} {M_block : Nat → Int32} {M_left : Nat → Int32} {M_right : Nat → Int32} {M_pivot : Nat → Int32} {M_live : Nat → Int32} {M_needed : Nat → Int32} {M_label : Nat → Int32} {M_tape : Nat → Int32} {M_of : Nat → Int64} {M_kept : Nat → Int64} {M_had : Nat → Int32} {M_told : Nat → Int64} {M_first : Nat → Int64} {M_node : Nat → Int64} {M_nodeVariable : Nat → Int32} {M_nodeLow : Nat → Int32} {M_nodeHigh : Nat → Int32} {M_wait : Nat → Int32} {x1 : Int32} {x2 : Int32} {x3 : Int32} {k : Int32 → (Nat → Int64) → (Nat → Int64) → Prop} {k122 : (Nat → Int64) → Prop} (C0 : CX p s m args meth c b_M_gap 8 (some .int) R_M "gap" D ca tp A) :
    ∀ (n : Nat) (x4 : Int32) (M_second : Nat → Int64) {H : Heap} {locs : List Loc} {ls : Array Slot}, p_M_gap_L87 M_end M_of k122 n x4 M_second → WH D A s (WM am ca M_clauses M_given M_end M_taped M_size M_at M_to M_sort M_worth M_faultKind M_faultPlace M_isTold M_nodes M_plain M_minus M_block M_left M_right M_pivot M_live M_needed M_label M_tape M_of M_kept M_had M_told M_first M_second M_node M_nodeVariable M_nodeLow M_nodeHigh M_wait) H locs → lv_has ls 8 [(0, .ref (am 0)), (1, .int x1), (2, .int x2), (3, .int x3), (4, .int x4)] →
      (∀ (M_second : Nat → Int64) (H : Heap) (locs : List Loc) (ls : Array Slot), k122 M_second → WH D A s (WM am ca M_clauses M_given M_end M_taped M_size M_at M_to M_sort M_worth M_faultKind M_faultPlace M_isTold M_nodes M_plain M_minus M_block M_left M_right M_pivot M_live M_needed M_label M_tape M_of M_kept M_had M_told M_first M_second M_node M_nodeVariable M_nodeLow M_nodeHigh M_wait) H locs → lv_has ls 8 [(0, .ref (am 0)), (1, .int x1), (2, .int x2), (3, .int x3)] → W p l e rm_M_gap s m args below meth c H locs 0 0 (QI D A below args s (fun r (u : (Nat → Int64) × (Nat → Int64)) => k r u.1 u.2) (fun (u : (Nat → Int64) × (Nat → Int64)) => WM am ca M_clauses M_given M_end M_taped M_size M_at M_to M_sort M_worth M_faultKind M_faultPlace M_isTold M_nodes M_plain M_minus M_block M_left M_right M_pivot M_live M_needed M_label M_tape u.1 M_kept M_had M_told M_first u.2 M_node M_nodeVariable M_nodeLow M_nodeHigh M_wait) 0 0) (F0 m 122 ls [])) →
      W p l e rm_M_gap s m args below meth c H locs 0 0 (QI D A below args s (fun r (u : (Nat → Int64) × (Nat → Int64)) => k r u.1 u.2) (fun (u : (Nat → Int64) × (Nat → Int64)) => WM am ca M_clauses M_given M_end M_taped M_size M_at M_to M_sort M_worth M_faultKind M_faultPlace M_isTold M_nodes M_plain M_minus M_block M_left M_right M_pivot M_live M_needed M_label M_tape u.1 M_kept M_had M_told M_first u.2 M_node M_nodeVariable M_nodeLow M_nodeHigh M_wait) 0 0) (F0 m 87 ls []) := by
  have hx := C0.1
  have hb := C0.2.1
  intro n
  induction n with
  | zero =>
    intro x4 M_second H locs ls h
    exact False.elim h
  | succ n ih =>
    intro x4 M_second H locs ls h hw hl h122
    unfold p_M_gap_L87 at h
    refine lv_iload hx hb d_M_gap_87 (lv_at hl 4 rfl) ?_
    refine lv_bipush (v := 16) hx hb d_M_gap_89 (by decide) ?_
    refine lv_icmp_ge (tgt := 122) hx hb d_M_gap_91 (by decide) (fun c_30 => ?_) (fun c_30 => ?_)
    · have h := h.1 c_30
      exact h122 _ _ _ _ h hw (lv_sub hl [0, 1, 2, 3] rfl)
    · have h := h.2 c_30
      refine lv_aload_n hx hb d_M_gap_94 rfl (lv_at hl 0 rfl) ?_
      refine x_get C0 hw 0 rfl rfl i_M 27 (by decide) wm_752 rfl rfl d_M_gap_95 ?_
      refine lv_iload hx hb d_M_gap_98 (lv_at hl 4 rfl) ?_
      refine lv_aload_n hx hb d_M_gap_100 rfl (lv_at hl 0 rfl) ?_
      refine x_get C0 hw 0 rfl rfl i_M 21 (by decide) wm_746 rfl rfl d_M_gap_101 ?_
      refine lv_bipush (v := 16) hx hb d_M_gap_104 (by decide) ?_
      refine lv_aload_n hx hb d_M_gap_106 rfl (lv_at hl 0 rfl) ?_
      refine x_get C0 hw 0 rfl rfl i_M 10 (by decide) wm_735 rfl rfl d_M_gap_107 ?_
      refine lv_imul hx hb d_M_gap_110 ?_
      refine lv_iload hx hb d_M_gap_111 (lv_at hl 4 rfl) ?_
      refine lv_iadd hx hb d_M_gap_113 ?_
      obtain ⟨hi_31, h⟩ := h
      refine x_lald C0 hw 11 rfl hi_31 d_M_gap_114 ?_
      obtain ⟨hi_32, h⟩ := h
      refine lv_topl (fun v_M_second_33 e_v_M_second_33 => ?_)
      have h := h v_M_second_33 e_v_M_second_33
      refine x_last C0 hw 16 rfl hi_32 (ws' := WM am ca M_clauses M_given M_end M_taped M_size M_at M_to M_sort M_worth M_faultKind M_faultPlace M_isTold M_nodes M_plain M_minus M_block M_left M_right M_pivot M_live M_needed M_label M_tape M_of M_kept M_had M_told M_first (vp_updL M_second x4.toNatClampNeg v_M_second_33) M_node M_nodeVariable M_nodeLow M_nodeHigh M_wait) rfl d_M_gap_115 (fun H locs hw => ?_)
      refine lv_iinc (v := (x4 + 1)) (lv' := [(4, .int (x4 + 1)), (0, .ref (am 0)), (1, .int x1), (2, .int x2), (3, .int x3)]) hx hb d_M_gap_116 hl (k := 4) rfl rfl (by decide) rfl (fun ls hl => ?_)
      refine lv_goto (tgt := 87) hx hb d_M_gap_119 (by decide) ?_
      exact ih _ _ h hw (lv_sub hl [1, 2, 3, 4, 0] rfl) h122
set_option maxHeartbeats 4000000 in
set_option maxRecDepth 100000 in
theorem c_M_gap {l : Launch} {D : va_G} {ca : Nat → ClassId} {tp : Nat} {am : Nat → Nat} {M_clauses : Int32} {M_given : Int32} {M_end : Int32} {M_taped : Int32} {M_size : Int32} {M_at : Int32} {M_to : Int32} {M_sort : Int32} {M_worth : Int32} {M_faultKind : Int32} {M_faultPlace : Int32} {M_isTold : Int32} {M_nodes : Int32} {M_plain : Nat → Int32} {M_minus : Nat → Int32} {M_block : Nat → Int32} {M_left : Nat → Int32} {M_right : Nat → Int32} {M_pivot : Nat → Int32} {M_live : Nat → Int32} {M_needed : Nat → Int32} {M_label : Nat → Int32} {M_tape : Nat → Int32} {M_of : Nat → Int64} {M_kept : Nat → Int64} {M_had : Nat → Int32} {M_told : Nat → Int64} {M_first : Nat → Int64} {M_second : Nat → Int64} {M_node : Nat → Int64} {M_nodeVariable : Nat → Int32} {M_nodeLow : Nat → Int32} {M_nodeHigh : Nat → Int32} {M_wait : Nat → Int32} {x1 : Int32} {x2 : Int32} {x3 : Int32} {k : Int32 → (Nat → Int64) → (Nat → Int64) → Prop} (h : p_M_gap M_clauses M_end M_plain M_minus M_block M_left M_right M_pivot M_needed M_label M_of M_second x1 x2 x3 k) :
    MTi l y_M_gap b_M_gap 8 (some .int) rm_M_gap D ca tp [.ref (am 0), .int x1, .int x2, .int x3] (WM am ca M_clauses M_given M_end M_taped M_size M_at M_to M_sort M_worth M_faultKind M_faultPlace M_isTold M_nodes M_plain M_minus M_block M_left M_right M_pivot M_live M_needed M_label M_tape M_of M_kept M_had M_told M_first M_second M_node M_nodeVariable M_nodeLow M_nodeHigh M_wait)
      (fun r (u : (Nat → Int64) × (Nat → Int64)) => k r u.1 u.2)
      (fun (u : (Nat → Int64) × (Nat → Int64)) => WM am ca M_clauses M_given M_end M_taped M_size M_at M_to M_sort M_worth M_faultKind M_faultPlace M_isTold M_nodes M_plain M_minus M_block M_left M_right M_pivot M_live M_needed M_label M_tape u.1 M_kept M_had M_told M_first u.2 M_node M_nodeVariable M_nodeLow M_nodeHigh M_wait) 0 0 := by
  refine x_entryi (own := R_M) (nm := "gap") (by decide) rfl rfl (Nat.le_of_ble_eq_true rfl) (fun p e s m below meth c A ls C0 hw hl => ?_)
  have hx := C0.1
  have hb := C0.2.1
  have hl : lv_has ls 8 [(0, .ref (am 0)), (1, .int x1), (2, .int x2), (3, .int x3)] := hl
  unfold p_M_gap at h
  refine lv_iload_n hx hb d_M_gap_0 rfl (lv_at hl 1 rfl) ?_
  refine lv_iconst (v := 1) hx hb d_M_gap_1 (by decide) ?_
  refine lv_bipush (v := 7) hx hb d_M_gap_2 (by decide) ?_
  refine x_callSi C0 hw hl (c_M_in h) g_M_in wm_891 wm_892 (As := [.int x1, .int (1 : Int32), .int (7 : Int32)]) (rest := []) rfl rfl (Nat.le_of_ble_eq_true rfl) ⟨rfl, rfl⟩ ⟨Nat.le_of_ble_eq_true rfl, Nat.le_of_ble_eq_true rfl⟩ ⟨Nat.le_of_ble_eq_true rfl, Nat.le_of_ble_eq_true rfl⟩ d_M_gap_4 (fun r_1 u H locs h hw => ?_)
  refine lv_if_eq (tgt := 19) hx hb d_M_gap_7 (by decide) (fun c_2 => ?_) (fun c_2 => ?_)
  · have h := h.1 c_2
    refine lv_bipush (v := -2) hx hb d_M_gap_19 (by decide) ?_
    exact x_iret C0 hw (M_of, M_second) h rfl d_M_gap_21
  · have h := h.2 c_2
    refine lv_iload_n hx hb d_M_gap_10 rfl (lv_at hl 2 rfl) ?_
    refine lv_iconst (v := 0) hx hb d_M_gap_11 (by decide) ?_
    refine lv_iconst (v := 3) hx hb d_M_gap_12 (by decide) ?_
    refine x_callSi C0 hw hl (c_M_in h) g_M_in wm_891 wm_892 (As := [.int x2, .int (0 : Int32), .int (3 : Int32)]) (rest := []) rfl rfl (Nat.le_of_ble_eq_true rfl) ⟨rfl, rfl⟩ ⟨Nat.le_of_ble_eq_true rfl, Nat.le_of_ble_eq_true rfl⟩ ⟨Nat.le_of_ble_eq_true rfl, Nat.le_of_ble_eq_true rfl⟩ d_M_gap_13 (fun r_3 u H locs h hw => ?_)
    refine lv_if_ne (tgt := 22) hx hb d_M_gap_16 (by decide) (fun c_4 => ?_) (fun c_4 => ?_)
    · have h := h.1 c_4
      refine lv_aload_n hx hb d_M_gap_22 rfl (lv_at hl 0 rfl) ?_
      refine x_get C0 hw 0 rfl rfl i_M 10 (by decide) wm_735 rfl rfl d_M_gap_23 ?_
      refine lv_iconst (v := -1) hx hb d_M_gap_26 (by decide) ?_
      refine lv_icmp_eq (tgt := 39) hx hb d_M_gap_27 (by decide) (fun c_5 => ?_) (fun c_5 => ?_)
      · have h := h.1 c_5
        refine lv_iconst (v := -1) hx hb d_M_gap_39 (by decide) ?_
        exact x_iret C0 hw (M_of, M_second) h rfl d_M_gap_40
      · have h := h.2 c_5
        refine lv_iload_n hx hb d_M_gap_30 rfl (lv_at hl 3 rfl) ?_
        refine lv_iconst (v := 0) hx hb d_M_gap_31 (by decide) ?_
        refine lv_iconst (v := 2) hx hb d_M_gap_32 (by decide) ?_
        refine x_callSi C0 hw hl (c_M_in h) g_M_in wm_891 wm_892 (As := [.int x3, .int (0 : Int32), .int (2 : Int32)]) (rest := []) rfl rfl (Nat.le_of_ble_eq_true rfl) ⟨rfl, rfl⟩ ⟨Nat.le_of_ble_eq_true rfl, Nat.le_of_ble_eq_true rfl⟩ ⟨Nat.le_of_ble_eq_true rfl, Nat.le_of_ble_eq_true rfl⟩ d_M_gap_33 (fun r_6 u H locs h hw => ?_)
        refine lv_if_ne (tgt := 41) hx hb d_M_gap_36 (by decide) (fun c_7 => ?_) (fun c_7 => ?_)
        · have h := h.1 c_7
          refine lv_iconst (v := 0) hx hb d_M_gap_41 (by decide) ?_
          refine lv_istore (lv' := [(4, .int (0 : Int32)), (0, .ref (am 0)), (1, .int x1), (2, .int x2), (3, .int x3)]) hx hb d_M_gap_42 hl (by decide) rfl (fun ls hl => ?_)
          obtain ⟨j_36, h⟩ := h
          refine b_M_gap_L44 C0 _ _ _ h hw (lv_sub hl [1, 2, 3, 4, 0] rfl) (fun M_second_10 H locs ls h hw hl => ?_)
          refine lv_iload_n hx hb d_M_gap_65 rfl (lv_at hl 3 rfl) ?_
          refine lv_iconst (v := 2) hx hb d_M_gap_66 (by decide) ?_
          refine lv_icmp_ne (tgt := 122) hx hb d_M_gap_67 (by decide) (fun c_11 => ?_) (fun c_11 => ?_)
          · have h := h.1 c_11
            refine b_M_gap_J122 C0 _ _ _ _ _ h hw (lv_sub hl [0, 1, 2, 3] rfl)
          · have h := h.2 c_11
            refine lv_iload_n hx hb d_M_gap_70 rfl (lv_at hl 1 rfl) ?_
            refine lv_bipush (v := 7) hx hb d_M_gap_71 (by decide) ?_
            refine lv_icmp_ge (tgt := 122) hx hb d_M_gap_73 (by decide) (fun c_27 => ?_) (fun c_27 => ?_)
            · have h := h.1 c_27
              refine b_M_gap_J122 C0 _ _ _ _ _ h hw (lv_sub hl [0, 1, 2, 3] rfl)
            · have h := h.2 c_27
              refine lv_aload_n hx hb d_M_gap_76 rfl (lv_at hl 0 rfl) ?_
              refine lv_iload_n hx hb d_M_gap_77 rfl (lv_at hl 1 rfl) ?_
              refine lv_iconst (v := 1) hx hb d_M_gap_78 (by decide) ?_
              refine lv_iadd hx hb d_M_gap_79 ?_
              refine lv_iload_n hx hb d_M_gap_80 rfl (lv_at hl 2 rfl) ?_
              refine x_callVv C0 hw hl (c_M_partials h) g_M_partials wm_922 ⟨wm_44, wm_924⟩ 0 rfl rfl rfl (As := [.int (x1 + (1 : Int32)), .int x2]) (rest := []) rfl rfl (Nat.le_of_ble_eq_true rfl) ⟨rfl, rfl⟩ ⟨Nat.le_of_ble_eq_true rfl, Nat.le_of_ble_eq_true rfl⟩ ⟨Nat.le_of_ble_eq_true rfl, Nat.le_of_ble_eq_true rfl⟩ d_M_gap_81 (fun u H locs h hw => ?_)
              obtain ⟨M_of_28, rfl⟩ : ∃ z, z = u := ⟨_, rfl⟩
              refine lv_iconst (v := 0) hx hb d_M_gap_84 (by decide) ?_
              refine lv_istore (lv' := [(4, .int (0 : Int32)), (0, .ref (am 0)), (1, .int x1), (2, .int x2), (3, .int x3)]) hx hb d_M_gap_85 hl (by decide) rfl (fun ls hl => ?_)
              obtain ⟨j_35, h⟩ := h
              refine b_M_gap_L87 C0 _ _ _ h hw (lv_sub hl [1, 2, 3, 4, 0] rfl) (fun M_second_34 H locs ls h hw hl => ?_)
              refine b_M_gap_J122 C0 _ _ _ _ _ h hw (lv_sub hl [0, 1, 2, 3] rfl)
        · have h := h.2 c_7
          refine lv_iconst (v := -1) hx hb d_M_gap_39 (by decide) ?_
          exact x_iret C0 hw (M_of, M_second) h rfl d_M_gap_40
    · have h := h.2 c_4
      refine lv_bipush (v := -2) hx hb d_M_gap_19 (by decide) ?_
      exact x_iret C0 hw (M_of, M_second) h rfl d_M_gap_21
theorem g_M_count : GY y_M_count b_M_count 4 (some .int) 1 := ⟨wm_994, wm_62, by decide +kernel, by decide +kernel, by decide +kernel⟩
def p_M_count_L48 (M_clauses : Int32) (M_live : Nat → Int32) (k : Int32 → Prop) : Nat → Int32 → Int32 → Prop
  | 0, _, _ => False
  | n + 1, x2, x3 =>
    ((M_clauses < x3 → (k x2)) ∧ (¬ M_clauses < x3 → (vp_in x3 202 ∧ (((M_live x3.toNatClampNeg) = 0 → (p_M_count_L48 M_clauses M_live k n (x2 + (0 : Int32)) (x3 + 1))) ∧ (¬ (M_live x3.toNatClampNeg) = 0 → (p_M_count_L48 M_clauses M_live k n (x2 + (1 : Int32)) (x3 + 1)))))))
def p_M_count_L83 (M_clauses : Int32) (M_needed : Nat → Int32) (k : Int32 → Prop) : Nat → Int32 → Int32 → Prop
  | 0, _, _ => False
  | n + 1, x2, x3 =>
    ((M_clauses < x3 → (k x2)) ∧ (¬ M_clauses < x3 → (vp_in x3 202 ∧ (((M_needed x3.toNatClampNeg) = 0 → (p_M_count_L83 M_clauses M_needed k n (x2 + (0 : Int32)) (x3 + 1))) ∧ (¬ (M_needed x3.toNatClampNeg) = 0 → (p_M_count_L83 M_clauses M_needed k n (x2 + (1 : Int32)) (x3 + 1)))))))
def p_M_count (M_clauses : Int32) (M_given : Int32) (M_taped : Int32) (M_live : Nat → Int32) (M_needed : Nat → Int32) (x1 : Int32) (k : Int32 → Prop) : Prop :=
  ((x1 = (0 : Int32) → (k M_clauses)) ∧ (x1 = (1 : Int32) → (k M_given)) ∧ (x1 = (2 : Int32) → (∃ j_7, p_M_count_L48 M_clauses M_live k j_7 (0 : Int32) (1 : Int32))) ∧ (x1 = (3 : Int32) → (∃ j_12, p_M_count_L83 M_clauses M_needed k j_12 (0 : Int32) (1 : Int32))) ∧ (x1 = (4 : Int32) → (k M_taped)) ∧ (¬ x1 = (0 : Int32) → ¬ x1 = (1 : Int32) → ¬ x1 = (2 : Int32) → ¬ x1 = (3 : Int32) → ¬ x1 = (4 : Int32) → (k (-1 : Int32))))
abbrev rm_M_count : Room := { frames := 0, cells := 0, slots := 0, locals := 0 }
set_option maxHeartbeats 4000000 in
set_option maxRecDepth 100000 in
theorem b_M_count_L48 {p : Program} {l : Launch} {e : Env} {s : State} {m : MethodId} {args : Array Value} {below : List Frame} {meth : Method} {c : Code} {D : va_G} {ca : Nat → ClassId} {tp : Nat} {A : Nat → Prop} {am : Nat → Nat} {M_clauses : Int32} {M_given : Int32} {M_end : Int32} {M_taped : Int32} {M_size : Int32} {M_at : Int32} {M_to : Int32} {M_sort : Int32} {M_worth : Int32} {M_faultKind : Int32} {M_faultPlace : Int32} {M_isTold : Int32} {M_nodes : Int32} {M_plain : Nat → Int32} {M_minus : Nat → Int32} {M_block : Nat → Int32} {M_left : Nat → Int32} {M_right : Nat → Int32} {M_pivot : Nat → Int32} {M_live : Nat → Int32} {M_needed : Nat → Int32} {M_label : Nat → Int32} {M_tape : Nat → Int32} {M_of : Nat → Int64} {M_kept : Nat → Int64} {M_had : Nat → Int32} {M_told : Nat → Int64} {M_first : Nat → Int64} {M_second : Nat → Int64} {M_node : Nat → Int64} {M_nodeVariable : Nat → Int32} {M_nodeLow : Nat → Int32} {M_nodeHigh : Nat → Int32} {M_wait : Nat → Int32}  {k : Int32 → Prop}  (C0 : CX p s m args meth c b_M_count 4 (some .int) R_M "count" D ca tp A) :
    ∀ (n : Nat) (x2 : Int32) (x3 : Int32) {H : Heap} {locs : List Loc} {ls : Array Slot}, p_M_count_L48 M_clauses M_live k n x2 x3 → WH D A s (WM am ca M_clauses M_given M_end M_taped M_size M_at M_to M_sort M_worth M_faultKind M_faultPlace M_isTold M_nodes M_plain M_minus M_block M_left M_right M_pivot M_live M_needed M_label M_tape M_of M_kept M_had M_told M_first M_second M_node M_nodeVariable M_nodeLow M_nodeHigh M_wait) H locs → lv_has ls 4 [(0, .ref (am 0)), (2, .int x2), (3, .int x3)] →
      W p l e rm_M_count s m args below meth c H locs 0 0 (QI D A below args s (fun r (_ : Unit) => k r) (fun (_ : Unit) => WM am ca M_clauses M_given M_end M_taped M_size M_at M_to M_sort M_worth M_faultKind M_faultPlace M_isTold M_nodes M_plain M_minus M_block M_left M_right M_pivot M_live M_needed M_label M_tape M_of M_kept M_had M_told M_first M_second M_node M_nodeVariable M_nodeLow M_nodeHigh M_wait) 0 0) (F0 m 48 ls []) := by
  have hx := C0.1
  have hb := C0.2.1
  intro n
  induction n with
  | zero =>
    intro x2 x3 H locs ls h
    exact False.elim h
  | succ n ih =>
    intro x2 x3 H locs ls h hw hl
    unfold p_M_count_L48 at h
    refine lv_iload_n hx hb d_M_count_48 rfl (lv_at hl 2 rfl) ?_
    refine lv_aload_n hx hb d_M_count_49 rfl (lv_at hl 0 rfl) ?_
    refine x_get C0 hw 0 rfl rfl i_M 8 (by decide) wm_733 rfl rfl d_M_count_50 ?_
    refine lv_icmp_gt (tgt := 79) hx hb d_M_count_53 (by decide) (fun c_4 => ?_) (fun c_4 => ?_)
    · have h := h.1 c_4
      refine lv_iload_n hx hb d_M_count_79 rfl (lv_at hl 1 rfl) ?_
      exact x_iret C0 hw () h rfl d_M_count_80
    · have h := h.2 c_4
      refine lv_iload_n hx hb d_M_count_56 rfl (lv_at hl 1 rfl) ?_
      refine lv_aload_n hx hb d_M_count_57 rfl (lv_at hl 0 rfl) ?_
      refine x_get C0 hw 0 rfl rfl i_M 6 (by decide) wm_731 rfl rfl d_M_count_58 ?_
      refine lv_iload_n hx hb d_M_count_61 rfl (lv_at hl 2 rfl) ?_
      obtain ⟨hi_5, h⟩ := h
      refine x_zald C0 hw 7 rfl hi_5 d_M_count_62 ?_
      refine lv_if_eq (tgt := 70) hx hb d_M_count_63 (by decide) (fun c_6 => ?_) (fun c_6 => ?_)
      · have h := h.1 c_6
        refine lv_iconst (v := 0) hx hb d_M_count_70 (by decide) ?_
        refine lv_iadd hx hb d_M_count_71 ?_
        refine lv_istore_n (lv' := [(2, .int (x2 + (0 : Int32))), (0, .ref (am 0)), (3, .int x3)]) hx hb d_M_count_72 rfl hl (by decide) rfl (fun ls hl => ?_)
        refine lv_iinc (v := (x3 + 1)) (lv' := [(3, .int (x3 + 1)), (2, .int (x2 + (0 : Int32))), (0, .ref (am 0))]) hx hb d_M_count_73 hl (k := 2) rfl rfl (by decide) rfl (fun ls hl => ?_)
        refine lv_goto (tgt := 48) hx hb d_M_count_76 (by decide) ?_
        exact ih _ _ h hw (lv_sub hl [2, 1, 0] rfl)
      · have h := h.2 c_6
        refine lv_iconst (v := 1) hx hb d_M_count_66 (by decide) ?_
        refine lv_goto (tgt := 71) hx hb d_M_count_67 (by decide) ?_
        refine lv_iadd hx hb d_M_count_71 ?_
        refine lv_istore_n (lv' := [(2, .int (x2 + (1 : Int32))), (0, .ref (am 0)), (3, .int x3)]) hx hb d_M_count_72 rfl hl (by decide) rfl (fun ls hl => ?_)
        refine lv_iinc (v := (x3 + 1)) (lv' := [(3, .int (x3 + 1)), (2, .int (x2 + (1 : Int32))), (0, .ref (am 0))]) hx hb d_M_count_73 hl (k := 2) rfl rfl (by decide) rfl (fun ls hl => ?_)
        refine lv_goto (tgt := 48) hx hb d_M_count_76 (by decide) ?_
        exact ih _ _ h hw (lv_sub hl [2, 1, 0] rfl)
set_option maxHeartbeats 4000000 in
set_option maxRecDepth 100000 in
theorem b_M_count_L83 {p : Program} {l : Launch} {e : Env} {s : State} {m : MethodId} {args : Array Value} {below : List Frame} {meth : Method} {c : Code} {D : va_G} {ca : Nat → ClassId} {tp : Nat} {A : Nat → Prop} {am : Nat → Nat} {M_clauses : Int32} {M_given : Int32} {M_end : Int32} {M_taped : Int32} {M_size : Int32} {M_at : Int32} {M_to : Int32} {M_sort : Int32} {M_worth : Int32} {M_faultKind : Int32} {M_faultPlace : Int32} {M_isTold : Int32} {M_nodes : Int32} {M_plain : Nat → Int32} {M_minus : Nat → Int32} {M_block : Nat → Int32} {M_left : Nat → Int32} {M_right : Nat → Int32} {M_pivot : Nat → Int32} {M_live : Nat → Int32} {M_needed : Nat → Int32} {M_label : Nat → Int32} {M_tape : Nat → Int32} {M_of : Nat → Int64} {M_kept : Nat → Int64} {M_had : Nat → Int32} {M_told : Nat → Int64} {M_first : Nat → Int64} {M_second : Nat → Int64} {M_node : Nat → Int64} {M_nodeVariable : Nat → Int32} {M_nodeLow : Nat → Int32} {M_nodeHigh : Nat → Int32} {M_wait : Nat → Int32}  {k : Int32 → Prop}  (C0 : CX p s m args meth c b_M_count 4 (some .int) R_M "count" D ca tp A) :
    ∀ (n : Nat) (x2 : Int32) (x3 : Int32) {H : Heap} {locs : List Loc} {ls : Array Slot}, p_M_count_L83 M_clauses M_needed k n x2 x3 → WH D A s (WM am ca M_clauses M_given M_end M_taped M_size M_at M_to M_sort M_worth M_faultKind M_faultPlace M_isTold M_nodes M_plain M_minus M_block M_left M_right M_pivot M_live M_needed M_label M_tape M_of M_kept M_had M_told M_first M_second M_node M_nodeVariable M_nodeLow M_nodeHigh M_wait) H locs → lv_has ls 4 [(0, .ref (am 0)), (2, .int x2), (3, .int x3)] →
      W p l e rm_M_count s m args below meth c H locs 0 0 (QI D A below args s (fun r (_ : Unit) => k r) (fun (_ : Unit) => WM am ca M_clauses M_given M_end M_taped M_size M_at M_to M_sort M_worth M_faultKind M_faultPlace M_isTold M_nodes M_plain M_minus M_block M_left M_right M_pivot M_live M_needed M_label M_tape M_of M_kept M_had M_told M_first M_second M_node M_nodeVariable M_nodeLow M_nodeHigh M_wait) 0 0) (F0 m 83 ls []) := by
  have hx := C0.1
  have hb := C0.2.1
  intro n
  induction n with
  | zero =>
    intro x2 x3 H locs ls h
    exact False.elim h
  | succ n ih =>
    intro x2 x3 H locs ls h hw hl
    unfold p_M_count_L83 at h
    refine lv_iload_n hx hb d_M_count_83 rfl (lv_at hl 2 rfl) ?_
    refine lv_aload_n hx hb d_M_count_84 rfl (lv_at hl 0 rfl) ?_
    refine x_get C0 hw 0 rfl rfl i_M 8 (by decide) wm_733 rfl rfl d_M_count_85 ?_
    refine lv_icmp_gt (tgt := 114) hx hb d_M_count_88 (by decide) (fun c_9 => ?_) (fun c_9 => ?_)
    · have h := h.1 c_9
      refine lv_iload_n hx hb d_M_count_114 rfl (lv_at hl 1 rfl) ?_
      exact x_iret C0 hw () h rfl d_M_count_115
    · have h := h.2 c_9
      refine lv_iload_n hx hb d_M_count_91 rfl (lv_at hl 1 rfl) ?_
      refine lv_aload_n hx hb d_M_count_92 rfl (lv_at hl 0 rfl) ?_
      refine x_get C0 hw 0 rfl rfl i_M 7 (by decide) wm_732 rfl rfl d_M_count_93 ?_
      refine lv_iload_n hx hb d_M_count_96 rfl (lv_at hl 2 rfl) ?_
      obtain ⟨hi_10, h⟩ := h
      refine x_zald C0 hw 8 rfl hi_10 d_M_count_97 ?_
      refine lv_if_eq (tgt := 105) hx hb d_M_count_98 (by decide) (fun c_11 => ?_) (fun c_11 => ?_)
      · have h := h.1 c_11
        refine lv_iconst (v := 0) hx hb d_M_count_105 (by decide) ?_
        refine lv_iadd hx hb d_M_count_106 ?_
        refine lv_istore_n (lv' := [(2, .int (x2 + (0 : Int32))), (0, .ref (am 0)), (3, .int x3)]) hx hb d_M_count_107 rfl hl (by decide) rfl (fun ls hl => ?_)
        refine lv_iinc (v := (x3 + 1)) (lv' := [(3, .int (x3 + 1)), (2, .int (x2 + (0 : Int32))), (0, .ref (am 0))]) hx hb d_M_count_108 hl (k := 2) rfl rfl (by decide) rfl (fun ls hl => ?_)
        refine lv_goto (tgt := 83) hx hb d_M_count_111 (by decide) ?_
        exact ih _ _ h hw (lv_sub hl [2, 1, 0] rfl)
      · have h := h.2 c_11
        refine lv_iconst (v := 1) hx hb d_M_count_101 (by decide) ?_
        refine lv_goto (tgt := 106) hx hb d_M_count_102 (by decide) ?_
        refine lv_iadd hx hb d_M_count_106 ?_
        refine lv_istore_n (lv' := [(2, .int (x2 + (1 : Int32))), (0, .ref (am 0)), (3, .int x3)]) hx hb d_M_count_107 rfl hl (by decide) rfl (fun ls hl => ?_)
        refine lv_iinc (v := (x3 + 1)) (lv' := [(3, .int (x3 + 1)), (2, .int (x2 + (1 : Int32))), (0, .ref (am 0))]) hx hb d_M_count_108 hl (k := 2) rfl rfl (by decide) rfl (fun ls hl => ?_)
        refine lv_goto (tgt := 83) hx hb d_M_count_111 (by decide) ?_
        exact ih _ _ h hw (lv_sub hl [2, 1, 0] rfl)
set_option maxHeartbeats 4000000 in
set_option maxRecDepth 100000 in
theorem c_M_count {l : Launch} {D : va_G} {ca : Nat → ClassId} {tp : Nat} {am : Nat → Nat} {M_clauses : Int32} {M_given : Int32} {M_end : Int32} {M_taped : Int32} {M_size : Int32} {M_at : Int32} {M_to : Int32} {M_sort : Int32} {M_worth : Int32} {M_faultKind : Int32} {M_faultPlace : Int32} {M_isTold : Int32} {M_nodes : Int32} {M_plain : Nat → Int32} {M_minus : Nat → Int32} {M_block : Nat → Int32} {M_left : Nat → Int32} {M_right : Nat → Int32} {M_pivot : Nat → Int32} {M_live : Nat → Int32} {M_needed : Nat → Int32} {M_label : Nat → Int32} {M_tape : Nat → Int32} {M_of : Nat → Int64} {M_kept : Nat → Int64} {M_had : Nat → Int32} {M_told : Nat → Int64} {M_first : Nat → Int64} {M_second : Nat → Int64} {M_node : Nat → Int64} {M_nodeVariable : Nat → Int32} {M_nodeLow : Nat → Int32} {M_nodeHigh : Nat → Int32} {M_wait : Nat → Int32} {x1 : Int32} {k : Int32 → Prop} (h : p_M_count M_clauses M_given M_taped M_live M_needed x1 k) :
    MTi l y_M_count b_M_count 4 (some .int) rm_M_count D ca tp [.ref (am 0), .int x1] (WM am ca M_clauses M_given M_end M_taped M_size M_at M_to M_sort M_worth M_faultKind M_faultPlace M_isTold M_nodes M_plain M_minus M_block M_left M_right M_pivot M_live M_needed M_label M_tape M_of M_kept M_had M_told M_first M_second M_node M_nodeVariable M_nodeLow M_nodeHigh M_wait)
      (fun r (_ : Unit) => k r)
      (fun (_ : Unit) => WM am ca M_clauses M_given M_end M_taped M_size M_at M_to M_sort M_worth M_faultKind M_faultPlace M_isTold M_nodes M_plain M_minus M_block M_left M_right M_pivot M_live M_needed M_label M_tape M_of M_kept M_had M_told M_first M_second M_node M_nodeVariable M_nodeLow M_nodeHigh M_wait) 0 0 := by
  refine x_entryi (own := R_M) (nm := "count") (by decide) rfl rfl (Nat.le_of_ble_eq_true rfl) (fun p e s m below meth c A ls C0 hw hl => ?_)
  have hx := C0.1
  have hb := C0.2.1
  have hl : lv_has ls 4 [(0, .ref (am 0)), (1, .int x1)] := hl
  unfold p_M_count at h
  refine lv_iconst (v := 0) hx hb d_M_count_0 (by decide) ?_
  refine lv_istore_n (lv' := [(2, .int (0 : Int32)), (0, .ref (am 0)), (1, .int x1)]) hx hb d_M_count_1 rfl hl (by decide) rfl (fun ls hl => ?_)
  refine lv_iload_n hx hb d_M_count_2 rfl (lv_at hl 2 rfl) ?_
  by_cases c_1 : x1 = (0 : Int32)
  · have h := h.1 c_1
    refine lv_tableIn (tgt := 36) (off := 33) hx hb d_M_count_3 (by rw [c_1]; decide) (by rw [c_1]; decide) (by rw [c_1]; rfl) (by decide) ?_
    refine lv_aload_n hx hb d_M_count_36 rfl (lv_at hl 1 rfl) ?_
    refine x_get C0 hw 0 rfl rfl i_M 8 (by decide) wm_733 rfl rfl d_M_count_37 ?_
    exact x_iret C0 hw () h rfl d_M_count_40
  by_cases c_2 : x1 = (1 : Int32)
  · have h := h.2.1 c_2
    refine lv_tableIn (tgt := 41) (off := 38) hx hb d_M_count_3 (by rw [c_2]; decide) (by rw [c_2]; decide) (by rw [c_2]; rfl) (by decide) ?_
    refine lv_aload_n hx hb d_M_count_41 rfl (lv_at hl 1 rfl) ?_
    refine x_get C0 hw 0 rfl rfl i_M 9 (by decide) wm_734 rfl rfl d_M_count_42 ?_
    exact x_iret C0 hw () h rfl d_M_count_45
  by_cases c_3 : x1 = (2 : Int32)
  · have h := h.2.2.1 c_3
    refine lv_tableIn (tgt := 46) (off := 43) hx hb d_M_count_3 (by rw [c_3]; decide) (by rw [c_3]; decide) (by rw [c_3]; rfl) (by decide) ?_
    refine lv_iconst (v := 1) hx hb d_M_count_46 (by decide) ?_
    refine lv_istore_n (lv' := [(3, .int (1 : Int32)), (2, .int (0 : Int32)), (0, .ref (am 0)), (1, .int x1)]) hx hb d_M_count_47 rfl hl (by decide) rfl (fun ls hl => ?_)
    obtain ⟨j_7, h⟩ := h
    refine b_M_count_L48 C0 _ _ _ h hw (lv_sub hl [2, 1, 0] rfl)
  by_cases c_8 : x1 = (3 : Int32)
  · have h := h.2.2.2.1 c_8
    refine lv_tableIn (tgt := 81) (off := 78) hx hb d_M_count_3 (by rw [c_8]; decide) (by rw [c_8]; decide) (by rw [c_8]; rfl) (by decide) ?_
    refine lv_iconst (v := 1) hx hb d_M_count_81 (by decide) ?_
    refine lv_istore_n (lv' := [(3, .int (1 : Int32)), (2, .int (0 : Int32)), (0, .ref (am 0)), (1, .int x1)]) hx hb d_M_count_82 rfl hl (by decide) rfl (fun ls hl => ?_)
    obtain ⟨j_12, h⟩ := h
    refine b_M_count_L83 C0 _ _ _ h hw (lv_sub hl [2, 1, 0] rfl)
  by_cases c_13 : x1 = (4 : Int32)
  · have h := h.2.2.2.2.1 c_13
    refine lv_tableIn (tgt := 116) (off := 113) hx hb d_M_count_3 (by rw [c_13]; decide) (by rw [c_13]; decide) (by rw [c_13]; rfl) (by decide) ?_
    refine lv_aload_n hx hb d_M_count_116 rfl (lv_at hl 1 rfl) ?_
    refine x_get C0 hw 0 rfl rfl i_M 13 (by decide) wm_738 rfl rfl d_M_count_117 ?_
    exact x_iret C0 hw () h rfl d_M_count_120
  have h := h.2.2.2.2.2 c_1 c_2 c_3 c_8 c_13
  refine lv_tableOut (tgt := 121) hx hb d_M_count_3 (by have q0 := lv_neT c_1 (a := 0) rfl; have q1 := lv_neT c_2 (a := 1) rfl; have q2 := lv_neT c_3 (a := 2) rfl; have q3 := lv_neT c_8 (a := 3) rfl; have q4 := lv_neT c_13 (a := 4) rfl; omega) (by decide) ?_
  refine lv_iconst (v := -1) hx hb d_M_count_121 (by decide) ?_
  exact x_iret C0 hw () h rfl d_M_count_122

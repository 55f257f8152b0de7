def p_W_law_L18 (L : Nat) (xs : Nat → Int32) : Nat → Int32 → Int32 → (Nat → Int32) → Int32 → Int32 → Int32 → Int32 → Int32 → (Nat → Int32) → (Nat → Int32) → (Nat → Int32) → (Nat → Int32) → (Nat → Int32) → (Nat → Int32) → (Nat → Int32) → (Nat → Int32) → Int32 → Int32 → Int32 → Int32 → Int32 → Int32 → Int32 → Int32 → Int32 → Int32 → Int32 → Int32 → Int32 → (Nat → Int32) → Int32 → Int32 → Int32 → (Nat → Int64) → Int32 → (Nat → Int64) → (Nat → Int32) → Int32 → (Nat → Int32) → (Nat → Int32) → (Nat → Int32) → (Nat → Int32) → (Nat → Int32) → (Nat → Int32) → (Nat → Int32) → (Nat → Int64) → (Nat → Int64) → Int32 → Int32 → Int32 → Int32 → Int32 → Int32 → Int32 → Int32 → Int32 → Int32 → Int32 → Int32 → Int32 → (Nat → Int32) → (Nat → Int32) → (Nat → Int32) → (Nat → Int32) → (Nat → Int32) → (Nat → Int32) → (Nat → Int32) → (Nat → Int32) → (Nat → Int32) → (Nat → Int32) → (Nat → Int64) → (Nat → Int64) → (Nat → Int32) → (Nat → Int64) → (Nat → Int64) → (Nat → Int64) → (Nat → Int64) → (Nat → Int32) → (Nat → Int32) → (Nat → Int32) → (Nat → Int32) → Prop
  | 0, _, _, _, _, _, _, _, _, _, _, _, _, _, _, _, _, _, _, _, _, _, _, _, _, _, _, _, _, _, _, _, _, _, _, _, _, _, _, _, _, _, _, _, _, _, _, _, _, _, _, _, _, _, _, _, _, _, _, _, _, _, _, _, _, _, _, _, _, _, _, _, _, _, _, _, _, _, _, _, _, _ => False
  | n + 1, x3, T_length, T_bytes, C_size, C_given, C_empty, C_drafted, C_draftedGiven, C_block, C_left, C_right, C_pivot, C_positive, C_negative, C_live, C_needed, R_kind, R_place, R_at, R_token, R_tokenPlace, R_number, R_state, R_block, R_positive, R_negative, R_left, R_right, R_pivot, L_of, F_cut, F_labelledA, F_labelledB, F_row, A_root, A_words, A_known, G_size, G_variable, G_low, G_high, G_numberOf, G_nodeOf, G_sides, G_waiting, B_table, B_nextTable, M_clauses, M_given, M_end, M_taped, M_size, M_at, M_to, M_sort, M_worth, M_faultKind, M_faultPlace, M_isTold, M_nodes, M_plain, M_minus, M_block, M_left, M_right, M_pivot, M_live, M_needed, M_label, M_tape, M_of, M_kept, M_had, M_told, M_first, M_second, M_node, M_nodeVariable, M_nodeLow, M_nodeHigh, M_wait =>
    ((((Int32.ofNat L) - (6 : Int32)) < x3 → True) ∧ (¬ ((Int32.ofNat L) - (6 : Int32)) < x3 → (vp_in x3 L ∧ ((((xs x3.toNatClampNeg) &&& (31 : Int32)) = (0 : Int32) → (vp_in (x3 + (1 : Int32)) L ∧ (vp_in (x3 + (2 : Int32)) L ∧ (vp_in (x3 + (3 : Int32)) L ∧ (vp_in (x3 + (4 : Int32)) L ∧ (vp_in (x3 + (5 : Int32)) L ∧ (p_B_feed T_length T_bytes (xs (x3 + (1 : Int32)).toNatClampNeg) (xs (x3 + (2 : Int32)).toNatClampNeg) (xs (x3 + (3 : Int32)).toNatClampNeg) (xs (x3 + (4 : Int32)).toNatClampNeg) (xs (x3 + (5 : Int32)).toNatClampNeg) (fun (r_11 : Int32) (T_length_9 : Int32) (T_bytes_10 : Nat → Int32) => (p_M_feed M_taped M_tape (xs (x3 + (1 : Int32)).toNatClampNeg) (xs (x3 + (2 : Int32)).toNatClampNeg) (xs (x3 + (3 : Int32)).toNatClampNeg) (xs (x3 + (4 : Int32)).toNatClampNeg) (xs (x3 + (5 : Int32)).toNatClampNeg) (fun (r_14 : Int32) (M_taped_12 : Int32) (M_tape_13 : Nat → Int32) => ((r_11 = r_14 → (p_W_law_L18 L xs n (x3 + 6) T_length_9 T_bytes_10 C_size C_given C_empty C_drafted C_draftedGiven C_block C_left C_right C_pivot C_positive C_negative C_live C_needed R_kind R_place R_at R_token R_tokenPlace R_number R_state R_block R_positive R_negative R_left R_right R_pivot L_of F_cut F_labelledA F_labelledB F_row A_root A_words A_known G_size G_variable G_low G_high G_numberOf G_nodeOf G_sides G_waiting B_table B_nextTable M_clauses M_given M_end M_taped_12 M_size M_at M_to M_sort M_worth M_faultKind M_faultPlace M_isTold M_nodes M_plain M_minus M_block M_left M_right M_pivot M_live M_needed M_label M_tape_13 M_of M_kept M_had M_told M_first M_second M_node M_nodeVariable M_nodeLow M_nodeHigh M_wait)) ∧ (¬ r_11 = r_14 → False)))))))))))) ∧ (((xs x3.toNatClampNeg) &&& (31 : Int32)) = (1 : Int32) → (vp_in (x3 + (1 : Int32)) L ∧ (p_B_end_ T_length (xs (x3 + (1 : Int32)).toNatClampNeg) (fun (r_19 : Int32) (T_length_18 : Int32) => (p_M_end_ M_taped (xs (x3 + (1 : Int32)).toNatClampNeg) (fun (r_21 : Int32) (M_taped_20 : Int32) => ((r_19 = r_21 → (p_W_law_L18 L xs n (x3 + 6) T_length_18 T_bytes C_size C_given C_empty C_drafted C_draftedGiven C_block C_left C_right C_pivot C_positive C_negative C_live C_needed R_kind R_place R_at R_token R_tokenPlace R_number R_state R_block R_positive R_negative R_left R_right R_pivot L_of F_cut F_labelledA F_labelledB F_row A_root A_words A_known G_size G_variable G_low G_high G_numberOf G_nodeOf G_sides G_waiting B_table B_nextTable M_clauses M_given M_end M_taped_20 M_size M_at M_to M_sort M_worth M_faultKind M_faultPlace M_isTold M_nodes M_plain M_minus M_block M_left M_right M_pivot M_live M_needed M_label M_tape M_of M_kept M_had M_told M_first M_second M_node M_nodeVariable M_nodeLow M_nodeHigh M_wait)) ∧ (¬ r_19 = r_21 → False)))))))) ∧ (((xs x3.toNatClampNeg) &&& (31 : Int32)) = (2 : Int32) → (p_B_read T_length T_bytes C_size C_given C_empty C_block C_left C_right C_pivot C_positive C_negative C_live C_needed R_tokenPlace R_number R_block R_positive R_negative R_left R_right R_pivot (fun (r_51 : Int32) (T_length_24 : Int32) (C_size_25 : Int32) (C_given_26 : Int32) (C_empty_27 : Int32) (C_drafted_28 : Int32) (C_draftedGiven_29 : Int32) (C_block_30 : Nat → Int32) (C_left_31 : Nat → Int32) (C_right_32 : Nat → Int32) (C_pivot_33 : Nat → Int32) (C_positive_34 : Nat → Int32) (C_negative_35 : Nat → Int32) (C_live_36 : Nat → Int32) (C_needed_37 : Nat → Int32) (R_kind_38 : Int32) (R_place_39 : Int32) (R_at_40 : Int32) (R_token_41 : Int32) (R_tokenPlace_42 : Int32) (R_number_43 : Int32) (R_state_44 : Int32) (R_block_45 : Int32) (R_positive_46 : Int32) (R_negative_47 : Int32) (R_left_48 : Int32) (R_right_49 : Int32) (R_pivot_50 : Int32) => (p_M_read M_clauses M_given M_end M_taped M_at M_sort M_worth M_plain M_minus M_block M_left M_right M_pivot M_live M_needed M_tape (fun (r_71 : Int32) (M_clauses_52 : Int32) (M_given_53 : Int32) (M_end_54 : Int32) (M_taped_55 : Int32) (M_size_56 : Int32) (M_at_57 : Int32) (M_to_58 : Int32) (M_sort_59 : Int32) (M_worth_60 : Int32) (M_faultKind_61 : Int32) (M_faultPlace_62 : Int32) (M_plain_63 : Nat → Int32) (M_minus_64 : Nat → Int32) (M_block_65 : Nat → Int32) (M_left_66 : Nat → Int32) (M_right_67 : Nat → Int32) (M_pivot_68 : Nat → Int32) (M_live_69 : Nat → Int32) (M_needed_70 : Nat → Int32) => ((r_51 = r_71 → (p_W_law_L18 L xs n (x3 + 6) T_length_24 T_bytes C_size_25 C_given_26 C_empty_27 C_drafted_28 C_draftedGiven_29 C_block_30 C_left_31 C_right_32 C_pivot_33 C_positive_34 C_negative_35 C_live_36 C_needed_37 R_kind_38 R_place_39 R_at_40 R_token_41 R_tokenPlace_42 R_number_43 R_state_44 R_block_45 R_positive_46 R_negative_47 R_left_48 R_right_49 R_pivot_50 L_of F_cut F_labelledA F_labelledB F_row A_root A_words A_known G_size G_variable G_low G_high G_numberOf G_nodeOf G_sides G_waiting B_table B_nextTable M_clauses_52 M_given_53 M_end_54 M_taped_55 M_size_56 M_at_57 M_to_58 M_sort_59 M_worth_60 M_faultKind_61 M_faultPlace_62 M_isTold M_nodes M_plain_63 M_minus_64 M_block_65 M_left_66 M_right_67 M_pivot_68 M_live_69 M_needed_70 M_label M_tape M_of M_kept M_had M_told M_first M_second M_node M_nodeVariable M_nodeLow M_nodeHigh M_wait)) ∧ (¬ r_51 = r_71 → False))))))) ∧ (((xs x3.toNatClampNeg) &&& (31 : Int32)) = (3 : Int32) → (vp_in (x3 + (1 : Int32)) L ∧ (p_B_fault R_kind R_place (xs (x3 + (1 : Int32)).toNatClampNeg) (fun (r_75 : Int32) => (p_M_fault M_faultKind M_faultPlace (xs (x3 + (1 : Int32)).toNatClampNeg) (fun (r_76 : Int32) => ((r_75 = r_76 → (p_W_law_L18 L xs n (x3 + 6) T_length T_bytes C_size C_given C_empty C_drafted C_draftedGiven C_block C_left C_right C_pivot C_positive C_negative C_live C_needed R_kind R_place R_at R_token R_tokenPlace R_number R_state R_block R_positive R_negative R_left R_right R_pivot L_of F_cut F_labelledA F_labelledB F_row A_root A_words A_known G_size G_variable G_low G_high G_numberOf G_nodeOf G_sides G_waiting B_table B_nextTable M_clauses M_given M_end M_taped M_size M_at M_to M_sort M_worth M_faultKind M_faultPlace M_isTold M_nodes M_plain M_minus M_block M_left M_right M_pivot M_live M_needed M_label M_tape M_of M_kept M_had M_told M_first M_second M_node M_nodeVariable M_nodeLow M_nodeHigh M_wait)) ∧ (¬ r_75 = r_76 → False)))))))) ∧ (((xs x3.toNatClampNeg) &&& (31 : Int32)) = (4 : Int32) → (p_B_clear C_size L_of (fun (r_83 : Int32) (C_size_79 : Int32) (C_given_80 : Int32) (C_empty_81 : Int32) (L_of_82 : Nat → Int32) => (p_M_clear M_clauses M_plain M_minus M_block M_left M_right M_needed M_label (fun (r_89 : Int32) (M_clauses_84 : Int32) (M_given_85 : Int32) (M_end_86 : Int32) (M_needed_87 : Nat → Int32) (M_label_88 : Nat → Int32) => ((r_83 = r_89 → (p_W_law_L18 L xs n (x3 + 6) T_length T_bytes C_size_79 C_given_80 C_empty_81 C_drafted C_draftedGiven C_block C_left C_right C_pivot C_positive C_negative C_live C_needed R_kind R_place R_at R_token R_tokenPlace R_number R_state R_block R_positive R_negative R_left R_right R_pivot L_of_82 F_cut F_labelledA F_labelledB F_row A_root A_words A_known G_size G_variable G_low G_high G_numberOf G_nodeOf G_sides G_waiting B_table B_nextTable M_clauses_84 M_given_85 M_end_86 M_taped M_size M_at M_to M_sort M_worth M_faultKind M_faultPlace M_isTold M_nodes M_plain M_minus M_block M_left M_right M_pivot M_live M_needed_87 M_label_88 M_tape M_of M_kept M_had M_told M_first M_second M_node M_nodeVariable M_nodeLow M_nodeHigh M_wait)) ∧ (¬ r_83 = r_89 → False))))))) ∧ (((xs x3.toNatClampNeg) &&& (31 : Int32)) = (5 : Int32) → (vp_in (x3 + (1 : Int32)) L ∧ (vp_in (x3 + (2 : Int32)) L ∧ (p_B_clause C_size C_block C_left C_right C_pivot C_positive C_negative C_needed (xs (x3 + (1 : Int32)).toNatClampNeg) (xs (x3 + (2 : Int32)).toNatClampNeg) (fun (r_94 : Int32) => (p_M_clause M_clauses M_plain M_minus M_block M_left M_right M_pivot M_needed (xs (x3 + (1 : Int32)).toNatClampNeg) (xs (x3 + (2 : Int32)).toNatClampNeg) (fun (r_95 : Int32) => ((r_94 = r_95 → (p_W_law_L18 L xs n (x3 + 6) T_length T_bytes C_size C_given C_empty C_drafted C_draftedGiven C_block C_left C_right C_pivot C_positive C_negative C_live C_needed R_kind R_place R_at R_token R_tokenPlace R_number R_state R_block R_positive R_negative R_left R_right R_pivot L_of F_cut F_labelledA F_labelledB F_row A_root A_words A_known G_size G_variable G_low G_high G_numberOf G_nodeOf G_sides G_waiting B_table B_nextTable M_clauses M_given M_end M_taped M_size M_at M_to M_sort M_worth M_faultKind M_faultPlace M_isTold M_nodes M_plain M_minus M_block M_left M_right M_pivot M_live M_needed M_label M_tape M_of M_kept M_had M_told M_first M_second M_node M_nodeVariable M_nodeLow M_nodeHigh M_wait)) ∧ (¬ r_94 = r_95 → False))))))))) ∧ (((xs x3.toNatClampNeg) &&& (31 : Int32)) = (6 : Int32) → (p_B_refutation C_empty (fun (r_98 : Int32) => (p_M_refutation M_end (fun (r_99 : Int32) => ((r_98 = r_99 → (p_W_law_L18 L xs n (x3 + 6) T_length T_bytes C_size C_given C_empty C_drafted C_draftedGiven C_block C_left C_right C_pivot C_positive C_negative C_live C_needed R_kind R_place R_at R_token R_tokenPlace R_number R_state R_block R_positive R_negative R_left R_right R_pivot L_of F_cut F_labelledA F_labelledB F_row A_root A_words A_known G_size G_variable G_low G_high G_numberOf G_nodeOf G_sides G_waiting B_table B_nextTable M_clauses M_given M_end M_taped M_size M_at M_to M_sort M_worth M_faultKind M_faultPlace M_isTold M_nodes M_plain M_minus M_block M_left M_right M_pivot M_live M_needed M_label M_tape M_of M_kept M_had M_told M_first M_second M_node M_nodeVariable M_nodeLow M_nodeHigh M_wait)) ∧ (¬ r_98 = r_99 → False))))))) ∧ (((xs x3.toNatClampNeg) &&& (31 : Int32)) = (7 : Int32) → (vp_in (x3 + (1 : Int32)) L ∧ (p_B_eliminate C_size C_given C_empty C_drafted C_draftedGiven C_block C_left C_right C_pivot C_positive C_negative C_live C_needed (xs (x3 + (1 : Int32)).toNatClampNeg) (fun (r_116 : Int32) (C_size_103 : Int32) (C_given_104 : Int32) (C_empty_105 : Int32) (C_drafted_106 : Int32) (C_draftedGiven_107 : Int32) (C_block_108 : Nat → Int32) (C_left_109 : Nat → Int32) (C_right_110 : Nat → Int32) (C_pivot_111 : Nat → Int32) (C_positive_112 : Nat → Int32) (C_negative_113 : Nat → Int32) (C_live_114 : Nat → Int32) (C_needed_115 : Nat → Int32) => (p_M_eliminate M_clauses M_given M_end M_plain M_minus M_block M_left M_right M_pivot M_live M_needed (xs (x3 + (1 : Int32)).toNatClampNeg) (fun (r_128 : Int32) (M_clauses_117 : Int32) (M_given_118 : Int32) (M_end_119 : Int32) (M_plain_120 : Nat → Int32) (M_minus_121 : Nat → Int32) (M_block_122 : Nat → Int32) (M_left_123 : Nat → Int32) (M_right_124 : Nat → Int32) (M_pivot_125 : Nat → Int32) (M_live_126 : Nat → Int32) (M_needed_127 : Nat → Int32) => ((r_116 = r_128 → (p_W_law_L18 L xs n (x3 + 6) T_length T_bytes C_size_103 C_given_104 C_empty_105 C_drafted_106 C_draftedGiven_107 C_block_108 C_left_109 C_right_110 C_pivot_111 C_positive_112 C_negative_113 C_live_114 C_needed_115 R_kind R_place R_at R_token R_tokenPlace R_number R_state R_block R_positive R_negative R_left R_right R_pivot L_of F_cut F_labelledA F_labelledB F_row A_root A_words A_known G_size G_variable G_low G_high G_numberOf G_nodeOf G_sides G_waiting B_table B_nextTable M_clauses_117 M_given_118 M_end_119 M_taped M_size M_at M_to M_sort M_worth M_faultKind M_faultPlace M_isTold M_nodes M_plain_120 M_minus_121 M_block_122 M_left_123 M_right_124 M_pivot_125 M_live_126 M_needed_127 M_label M_tape M_of M_kept M_had M_told M_first M_second M_node M_nodeVariable M_nodeLow M_nodeHigh M_wait)) ∧ (¬ r_116 = r_128 → False)))))))) ∧ (((xs x3.toNatClampNeg) &&& (31 : Int32)) = (8 : Int32) → (vp_in (x3 + (1 : Int32)) L ∧ (vp_in (x3 + (2 : Int32)) L ∧ (p_B_label L_of (xs (x3 + (1 : Int32)).toNatClampNeg) (xs (x3 + (2 : Int32)).toNatClampNeg) (fun (r_134 : Int32) (L_of_133 : Nat → Int32) => (p_M_label M_label (xs (x3 + (1 : Int32)).toNatClampNeg) (xs (x3 + (2 : Int32)).toNatClampNeg) (fun (r_136 : Int32) (M_label_135 : Nat → Int32) => ((r_134 = r_136 → (p_W_law_L18 L xs n (x3 + 6) T_length T_bytes C_size C_given C_empty C_drafted C_draftedGiven C_block C_left C_right C_pivot C_positive C_negative C_live C_needed R_kind R_place R_at R_token R_tokenPlace R_number R_state R_block R_positive R_negative R_left R_right R_pivot L_of_133 F_cut F_labelledA F_labelledB F_row A_root A_words A_known G_size G_variable G_low G_high G_numberOf G_nodeOf G_sides G_waiting B_table B_nextTable M_clauses M_given M_end M_taped M_size M_at M_to M_sort M_worth M_faultKind M_faultPlace M_isTold M_nodes M_plain M_minus M_block M_left M_right M_pivot M_live M_needed M_label_135 M_tape M_of M_kept M_had M_told M_first M_second M_node M_nodeVariable M_nodeLow M_nodeHigh M_wait)) ∧ (¬ r_134 = r_136 → False))))))))) ∧ (((xs x3.toNatClampNeg) &&& (31 : Int32)) = (9 : Int32) → (vp_in (x3 + (1 : Int32)) L ∧ (vp_in (x3 + (2 : Int32)) L ∧ (p_B_variables C_size C_block C_positive C_negative (xs (x3 + (1 : Int32)).toNatClampNeg) (xs (x3 + (2 : Int32)).toNatClampNeg) (fun (r_141 : Int32) => (p_M_variables M_clauses M_plain M_minus M_block (xs (x3 + (1 : Int32)).toNatClampNeg) (xs (x3 + (2 : Int32)).toNatClampNeg) (fun (r_142 : Int32) => ((r_141 = r_142 → (p_W_law_L18 L xs n (x3 + 6) T_length T_bytes C_size C_given C_empty C_drafted C_draftedGiven C_block C_left C_right C_pivot C_positive C_negative C_live C_needed R_kind R_place R_at R_token R_tokenPlace R_number R_state R_block R_positive R_negative R_left R_right R_pivot L_of F_cut F_labelledA F_labelledB F_row A_root A_words A_known G_size G_variable G_low G_high G_numberOf G_nodeOf G_sides G_waiting B_table B_nextTable M_clauses M_given M_end M_taped M_size M_at M_to M_sort M_worth M_faultKind M_faultPlace M_isTold M_nodes M_plain M_minus M_block M_left M_right M_pivot M_live M_needed M_label M_tape M_of M_kept M_had M_told M_first M_second M_node M_nodeVariable M_nodeLow M_nodeHigh M_wait)) ∧ (¬ r_141 = r_142 → False))))))))) ∧ (((xs x3.toNatClampNeg) &&& (31 : Int32)) = (10 : Int32) → (vp_in (x3 + (1 : Int32)) L ∧ (vp_in (x3 + (2 : Int32)) L ∧ (p_B_interpolate C_size C_empty C_block C_left C_right C_pivot C_positive C_negative C_needed L_of F_cut F_labelledA F_labelledB F_row A_root A_words A_known G_size G_variable G_low G_high G_numberOf G_nodeOf G_sides G_waiting (xs (x3 + (1 : Int32)).toNatClampNeg) (xs (x3 + (2 : Int32)).toNatClampNeg) (fun (r_162 : Int32) (F_cut_147 : Int32) (F_labelledA_148 : Int32) (F_labelledB_149 : Int32) (F_row_150 : Nat → Int64) (A_root_151 : Int32) (A_words_152 : Nat → Int64) (A_known_153 : Nat → Int32) (G_size_154 : Int32) (G_variable_155 : Nat → Int32) (G_low_156 : Nat → Int32) (G_high_157 : Nat → Int32) (G_numberOf_158 : Nat → Int32) (G_nodeOf_159 : Nat → Int32) (G_sides_160 : Nat → Int32) (G_waiting_161 : Nat → Int32) => (p_M_interpolate M_clauses M_end M_isTold M_nodes M_plain M_minus M_block M_left M_right M_pivot M_needed M_label M_of M_kept M_had M_told M_second M_node M_nodeVariable M_nodeLow M_nodeHigh M_wait (xs (x3 + (1 : Int32)).toNatClampNeg) (xs (x3 + (2 : Int32)).toNatClampNeg) (fun (r_175 : Int32) (M_isTold_163 : Int32) (M_nodes_164 : Int32) (M_of_165 : Nat → Int64) (M_kept_166 : Nat → Int64) (M_had_167 : Nat → Int32) (M_told_168 : Nat → Int64) (M_second_169 : Nat → Int64) (M_node_170 : Nat → Int64) (M_nodeVariable_171 : Nat → Int32) (M_nodeLow_172 : Nat → Int32) (M_nodeHigh_173 : Nat → Int32) (M_wait_174 : Nat → Int32) => ((r_162 = r_175 → (p_W_law_L18 L xs n (x3 + 6) T_length T_bytes C_size C_given C_empty C_drafted C_draftedGiven C_block C_left C_right C_pivot C_positive C_negative C_live C_needed R_kind R_place R_at R_token R_tokenPlace R_number R_state R_block R_positive R_negative R_left R_right R_pivot L_of F_cut_147 F_labelledA_148 F_labelledB_149 F_row_150 A_root_151 A_words_152 A_known_153 G_size_154 G_variable_155 G_low_156 G_high_157 G_numberOf_158 G_nodeOf_159 G_sides_160 G_waiting_161 B_table B_nextTable M_clauses M_given M_end M_taped M_size M_at M_to M_sort M_worth M_faultKind M_faultPlace M_isTold_163 M_nodes_164 M_plain M_minus M_block M_left M_right M_pivot M_live M_needed M_label M_tape M_of_165 M_kept_166 M_had_167 M_told_168 M_first M_second_169 M_node_170 M_nodeVariable_171 M_nodeLow_172 M_nodeHigh_173 M_wait_174)) ∧ (¬ r_162 = r_175 → False))))))))) ∧ (((xs x3.toNatClampNeg) &&& (31 : Int32)) = (11 : Int32) → (vp_in (x3 + (1 : Int32)) L ∧ (p_B_value A_root A_words A_known (xs (x3 + (1 : Int32)).toNatClampNeg) (fun (r_179 : Int32) => (p_M_value M_isTold M_told (xs (x3 + (1 : Int32)).toNatClampNeg) (fun (r_180 : Int32) => ((r_179 = r_180 → (p_W_law_L18 L xs n (x3 + 6) T_length T_bytes C_size C_given C_empty C_drafted C_draftedGiven C_block C_left C_right C_pivot C_positive C_negative C_live C_needed R_kind R_place R_at R_token R_tokenPlace R_number R_state R_block R_positive R_negative R_left R_right R_pivot L_of F_cut F_labelledA F_labelledB F_row A_root A_words A_known G_size G_variable G_low G_high G_numberOf G_nodeOf G_sides G_waiting B_table B_nextTable M_clauses M_given M_end M_taped M_size M_at M_to M_sort M_worth M_faultKind M_faultPlace M_isTold M_nodes M_plain M_minus M_block M_left M_right M_pivot M_live M_needed M_label M_tape M_of M_kept M_had M_told M_first M_second M_node M_nodeVariable M_nodeLow M_nodeHigh M_wait)) ∧ (¬ r_179 = r_180 → False)))))))) ∧ (((xs x3.toNatClampNeg) &&& (31 : Int32)) = (12 : Int32) → (vp_in (x3 + (1 : Int32)) L ∧ (vp_in (x3 + (2 : Int32)) L ∧ (p_B_prt A_words A_known (xs (x3 + (1 : Int32)).toNatClampNeg) (xs (x3 + (2 : Int32)).toNatClampNeg) (fun (r_185 : Int32) => (p_M_prt M_isTold M_kept M_had (xs (x3 + (1 : Int32)).toNatClampNeg) (xs (x3 + (2 : Int32)).toNatClampNeg) (fun (r_186 : Int32) => ((r_185 = r_186 → (p_W_law_L18 L xs n (x3 + 6) T_length T_bytes C_size C_given C_empty C_drafted C_draftedGiven C_block C_left C_right C_pivot C_positive C_negative C_live C_needed R_kind R_place R_at R_token R_tokenPlace R_number R_state R_block R_positive R_negative R_left R_right R_pivot L_of F_cut F_labelledA F_labelledB F_row A_root A_words A_known G_size G_variable G_low G_high G_numberOf G_nodeOf G_sides G_waiting B_table B_nextTable M_clauses M_given M_end M_taped M_size M_at M_to M_sort M_worth M_faultKind M_faultPlace M_isTold M_nodes M_plain M_minus M_block M_left M_right M_pivot M_live M_needed M_label M_tape M_of M_kept M_had M_told M_first M_second M_node M_nodeVariable M_nodeLow M_nodeHigh M_wait)) ∧ (¬ r_185 = r_186 → False))))))))) ∧ (((xs x3.toNatClampNeg) &&& (31 : Int32)) = (13 : Int32) → (vp_in (x3 + (1 : Int32)) L ∧ (p_B_told A_root A_words G_size G_variable (xs (x3 + (1 : Int32)).toNatClampNeg) (fun (r_190 : Int32) => (p_M_told M_isTold M_nodes M_told M_nodeVariable (xs (x3 + (1 : Int32)).toNatClampNeg) (fun (r_191 : Int32) => ((r_190 = r_191 → (p_W_law_L18 L xs n (x3 + 6) T_length T_bytes C_size C_given C_empty C_drafted C_draftedGiven C_block C_left C_right C_pivot C_positive C_negative C_live C_needed R_kind R_place R_at R_token R_tokenPlace R_number R_state R_block R_positive R_negative R_left R_right R_pivot L_of F_cut F_labelledA F_labelledB F_row A_root A_words A_known G_size G_variable G_low G_high G_numberOf G_nodeOf G_sides G_waiting B_table B_nextTable M_clauses M_given M_end M_taped M_size M_at M_to M_sort M_worth M_faultKind M_faultPlace M_isTold M_nodes M_plain M_minus M_block M_left M_right M_pivot M_live M_needed M_label M_tape M_of M_kept M_had M_told M_first M_second M_node M_nodeVariable M_nodeLow M_nodeHigh M_wait)) ∧ (¬ r_190 = r_191 → False)))))))) ∧ (((xs x3.toNatClampNeg) &&& (31 : Int32)) = (14 : Int32) → (vp_in (x3 + (1 : Int32)) L ∧ (vp_in (x3 + (2 : Int32)) L ∧ (p_B_graph G_size G_variable G_low G_high G_numberOf G_nodeOf (xs (x3 + (1 : Int32)).toNatClampNeg) (xs (x3 + (2 : Int32)).toNatClampNeg) (fun (r_196 : Int32) => (p_M_graph M_isTold M_nodes M_nodeVariable M_nodeLow M_nodeHigh (xs (x3 + (1 : Int32)).toNatClampNeg) (xs (x3 + (2 : Int32)).toNatClampNeg) (fun (r_197 : Int32) => ((r_196 = r_197 → (p_W_law_L18 L xs n (x3 + 6) T_length T_bytes C_size C_given C_empty C_drafted C_draftedGiven C_block C_left C_right C_pivot C_positive C_negative C_live C_needed R_kind R_place R_at R_token R_tokenPlace R_number R_state R_block R_positive R_negative R_left R_right R_pivot L_of F_cut F_labelledA F_labelledB F_row A_root A_words A_known G_size G_variable G_low G_high G_numberOf G_nodeOf G_sides G_waiting B_table B_nextTable M_clauses M_given M_end M_taped M_size M_at M_to M_sort M_worth M_faultKind M_faultPlace M_isTold M_nodes M_plain M_minus M_block M_left M_right M_pivot M_live M_needed M_label M_tape M_of M_kept M_had M_told M_first M_second M_node M_nodeVariable M_nodeLow M_nodeHigh M_wait)) ∧ (¬ r_196 = r_197 → False))))))))) ∧ (((xs x3.toNatClampNeg) &&& (31 : Int32)) = (15 : Int32) → (vp_in (x3 + (1 : Int32)) L ∧ (vp_in (x3 + (2 : Int32)) L ∧ (vp_in (x3 + (3 : Int32)) L ∧ (p_B_follows C_size C_empty C_block C_left C_right C_pivot C_positive C_negative C_needed L_of F_cut F_labelledA F_labelledB F_row B_table B_nextTable (xs (x3 + (1 : Int32)).toNatClampNeg) (xs (x3 + (2 : Int32)).toNatClampNeg) (xs (x3 + (3 : Int32)).toNatClampNeg) (fun (r_209 : Int32) (F_cut_203 : Int32) (F_labelledA_204 : Int32) (F_labelledB_205 : Int32) (F_row_206 : Nat → Int64) (B_table_207 : Nat → Int64) (B_nextTable_208 : Nat → Int64) => (p_M_follows M_clauses M_end M_plain M_minus M_block M_left M_right M_pivot M_needed M_label M_of M_first (xs (x3 + (1 : Int32)).toNatClampNeg) (xs (x3 + (2 : Int32)).toNatClampNeg) (xs (x3 + (3 : Int32)).toNatClampNeg) (fun (r_212 : Int32) (M_of_210 : Nat → Int64) (M_first_211 : Nat → Int64) => ((r_209 = r_212 → (p_W_law_L18 L xs n (x3 + 6) T_length T_bytes C_size C_given C_empty C_drafted C_draftedGiven C_block C_left C_right C_pivot C_positive C_negative C_live C_needed R_kind R_place R_at R_token R_tokenPlace R_number R_state R_block R_positive R_negative R_left R_right R_pivot L_of F_cut_203 F_labelledA_204 F_labelledB_205 F_row_206 A_root A_words A_known G_size G_variable G_low G_high G_numberOf G_nodeOf G_sides G_waiting B_table_207 B_nextTable_208 M_clauses M_given M_end M_taped M_size M_at M_to M_sort M_worth M_faultKind M_faultPlace M_isTold M_nodes M_plain M_minus M_block M_left M_right M_pivot M_live M_needed M_label M_tape M_of_210 M_kept M_had M_told M_first_211 M_second M_node M_nodeVariable M_nodeLow M_nodeHigh M_wait)) ∧ (¬ r_209 = r_212 → False)))))))))) ∧ (((xs x3.toNatClampNeg) &&& (31 : Int32)) = (16 : Int32) → (vp_in (x3 + (1 : Int32)) L ∧ (vp_in (x3 + (2 : Int32)) L ∧ (vp_in (x3 + (3 : Int32)) L ∧ (p_B_gap C_size C_empty C_block C_left C_right C_pivot C_positive C_negative C_needed L_of F_cut F_labelledA F_labelledB F_row B_table B_nextTable (xs (x3 + (1 : Int32)).toNatClampNeg) (xs (x3 + (2 : Int32)).toNatClampNeg) (xs (x3 + (3 : Int32)).toNatClampNeg) (fun (r_224 : Int32) (F_cut_218 : Int32) (F_labelledA_219 : Int32) (F_labelledB_220 : Int32) (F_row_221 : Nat → Int64) (B_table_222 : Nat → Int64) (B_nextTable_223 : Nat → Int64) => (p_M_gap M_clauses M_end M_plain M_minus M_block M_left M_right M_pivot M_needed M_label M_of M_second (xs (x3 + (1 : Int32)).toNatClampNeg) (xs (x3 + (2 : Int32)).toNatClampNeg) (xs (x3 + (3 : Int32)).toNatClampNeg) (fun (r_227 : Int32) (M_of_225 : Nat → Int64) (M_second_226 : Nat → Int64) => ((r_224 = r_227 → (p_W_law_L18 L xs n (x3 + 6) T_length T_bytes C_size C_given C_empty C_drafted C_draftedGiven C_block C_left C_right C_pivot C_positive C_negative C_live C_needed R_kind R_place R_at R_token R_tokenPlace R_number R_state R_block R_positive R_negative R_left R_right R_pivot L_of F_cut_218 F_labelledA_219 F_labelledB_220 F_row_221 A_root A_words A_known G_size G_variable G_low G_high G_numberOf G_nodeOf G_sides G_waiting B_table_222 B_nextTable_223 M_clauses M_given M_end M_taped M_size M_at M_to M_sort M_worth M_faultKind M_faultPlace M_isTold M_nodes M_plain M_minus M_block M_left M_right M_pivot M_live M_needed M_label M_tape M_of_225 M_kept M_had M_told M_first M_second_226 M_node M_nodeVariable M_nodeLow M_nodeHigh M_wait)) ∧ (¬ r_224 = r_227 → False)))))))))) ∧ (((xs x3.toNatClampNeg) &&& (31 : Int32)) = (17 : Int32) → (vp_in (x3 + (1 : Int32)) L ∧ (p_B_count T_length C_size C_given C_empty C_live C_needed (xs (x3 + (1 : Int32)).toNatClampNeg) (fun (r_231 : Int32) => (p_M_count M_clauses M_given M_taped M_live M_needed (xs (x3 + (1 : Int32)).toNatClampNeg) (fun (r_232 : Int32) => ((r_231 = r_232 → (p_W_law_L18 L xs n (x3 + 6) T_length T_bytes C_size C_given C_empty C_drafted C_draftedGiven C_block C_left C_right C_pivot C_positive C_negative C_live C_needed R_kind R_place R_at R_token R_tokenPlace R_number R_state R_block R_positive R_negative R_left R_right R_pivot L_of F_cut F_labelledA F_labelledB F_row A_root A_words A_known G_size G_variable G_low G_high G_numberOf G_nodeOf G_sides G_waiting B_table B_nextTable M_clauses M_given M_end M_taped M_size M_at M_to M_sort M_worth M_faultKind M_faultPlace M_isTold M_nodes M_plain M_minus M_block M_left M_right M_pivot M_live M_needed M_label M_tape M_of M_kept M_had M_told M_first M_second M_node M_nodeVariable M_nodeLow M_nodeHigh M_wait)) ∧ (¬ r_231 = r_232 → False)))))))) ∧ (¬ ((xs x3.toNatClampNeg) &&& (31 : Int32)) = (0 : Int32) → ¬ ((xs x3.toNatClampNeg) &&& (31 : Int32)) = (1 : Int32) → ¬ ((xs x3.toNatClampNeg) &&& (31 : Int32)) = (2 : Int32) → ¬ ((xs x3.toNatClampNeg) &&& (31 : Int32)) = (3 : Int32) → ¬ ((xs x3.toNatClampNeg) &&& (31 : Int32)) = (4 : Int32) → ¬ ((xs x3.toNatClampNeg) &&& (31 : Int32)) = (5 : Int32) → ¬ ((xs x3.toNatClampNeg) &&& (31 : Int32)) = (6 : Int32) → ¬ ((xs x3.toNatClampNeg) &&& (31 : Int32)) = (7 : Int32) → ¬ ((xs x3.toNatClampNeg) &&& (31 : Int32)) = (8 : Int32) → ¬ ((xs x3.toNatClampNeg) &&& (31 : Int32)) = (9 : Int32) → ¬ ((xs x3.toNatClampNeg) &&& (31 : Int32)) = (10 : Int32) → ¬ ((xs x3.toNatClampNeg) &&& (31 : Int32)) = (11 : Int32) → ¬ ((xs x3.toNatClampNeg) &&& (31 : Int32)) = (12 : Int32) → ¬ ((xs x3.toNatClampNeg) &&& (31 : Int32)) = (13 : Int32) → ¬ ((xs x3.toNatClampNeg) &&& (31 : Int32)) = (14 : Int32) → ¬ ((xs x3.toNatClampNeg) &&& (31 : Int32)) = (15 : Int32) → ¬ ((xs x3.toNatClampNeg) &&& (31 : Int32)) = (16 : Int32) → ¬ ((xs x3.toNatClampNeg) &&& (31 : Int32)) = (17 : Int32) → (p_W_law_L18 L xs n (x3 + 6) T_length T_bytes C_size C_given C_empty C_drafted C_draftedGiven C_block C_left C_right C_pivot C_positive C_negative C_live C_needed R_kind R_place R_at R_token R_tokenPlace R_number R_state R_block R_positive R_negative R_left R_right R_pivot L_of F_cut F_labelledA F_labelledB F_row A_root A_words A_known G_size G_variable G_low G_high G_numberOf G_nodeOf G_sides G_waiting B_table B_nextTable M_clauses M_given M_end M_taped M_size M_at M_to M_sort M_worth M_faultKind M_faultPlace M_isTold M_nodes M_plain M_minus M_block M_left M_right M_pivot M_live M_needed M_label M_tape M_of M_kept M_had M_told M_first M_second M_node M_nodeVariable M_nodeLow M_nodeHigh M_wait))))))
set_option maxHeartbeats 8000000 in
set_option maxRecDepth 100000 in
theorem b_W_law_L18 {p : Program} {l : Launch} {e : Env} {s : State} {m : MethodId} {below : List Frame} {meth : Method} {c : Code} {D : va_G} {ca : Nat → ClassId} {tp : Nat} {A : Nat → Prop} {ad am : Nat → Nat} {nm : String} {b L : Nat} {xs : Nat → Int32} (C0 : CX p s m #[Value.ref b] meth c code 4 ret R_W nm D ca tp A) (hA0 : A = fun q => s.heap.size ≤ q) (hX : va_X b L xs s s.heap) (hbl : b < s.heap.size) :
    ∀ (n : Nat) (x3 : Int32) (T_length : Int32) (T_bytes : Nat → Int32) (C_size : Int32) (C_given : Int32) (C_empty : Int32) (C_drafted : Int32) (C_draftedGiven : Int32) (C_block : Nat → Int32) (C_left : Nat → Int32) (C_right : Nat → Int32) (C_pivot : Nat → Int32) (C_positive : Nat → Int32) (C_negative : Nat → Int32) (C_live : Nat → Int32) (C_needed : Nat → Int32) (R_kind : Int32) (R_place : Int32) (R_at : Int32) (R_token : Int32) (R_tokenPlace : Int32) (R_number : Int32) (R_state : Int32) (R_block : Int32) (R_positive : Int32) (R_negative : Int32) (R_left : Int32) (R_right : Int32) (R_pivot : Int32) (L_of : Nat → Int32) (F_cut : Int32) (F_labelledA : Int32) (F_labelledB : Int32) (F_row : Nat → Int64) (A_root : Int32) (A_words : Nat → Int64) (A_known : Nat → Int32) (G_size : Int32) (G_variable : Nat → Int32) (G_low : Nat → Int32) (G_high : Nat → Int32) (G_numberOf : Nat → Int32) (G_nodeOf : Nat → Int32) (G_sides : Nat → Int32) (G_waiting : Nat → Int32) (B_table : Nat → Int64) (B_nextTable : Nat → Int64) (M_clauses : Int32) (M_given : Int32) (M_end : Int32) (M_taped : Int32) (M_size : Int32) (M_at : Int32) (M_to : Int32) (M_sort : Int32) (M_worth : Int32) (M_faultKind : Int32) (M_faultPlace : Int32) (M_isTold : Int32) (M_nodes : Int32) (M_plain : Nat → Int32) (M_minus : Nat → Int32) (M_block : Nat → Int32) (M_left : Nat → Int32) (M_right : Nat → Int32) (M_pivot : Nat → Int32) (M_live : Nat → Int32) (M_needed : Nat → Int32) (M_label : Nat → Int32) (M_tape : Nat → Int32) (M_of : Nat → Int64) (M_kept : Nat → Int64) (M_had : Nat → Int32) (M_told : Nat → Int64) (M_first : Nat → Int64) (M_second : Nat → Int64) (M_node : Nat → Int64) (M_nodeVariable : Nat → Int32) (M_nodeLow : Nat → Int32) (M_nodeHigh : Nat → Int32) (M_wait : Nat → Int32) {H : Heap} {locs : List Loc} {ls : Array Slot}, p_W_law_L18 L xs n x3 T_length T_bytes C_size C_given C_empty C_drafted C_draftedGiven C_block C_left C_right C_pivot C_positive C_negative C_live C_needed R_kind R_place R_at R_token R_tokenPlace R_number R_state R_block R_positive R_negative R_left R_right R_pivot L_of F_cut F_labelledA F_labelledB F_row A_root A_words A_known G_size G_variable G_low G_high G_numberOf G_nodeOf G_sides G_waiting B_table B_nextTable M_clauses M_given M_end M_taped M_size M_at M_to M_sort M_worth M_faultKind M_faultPlace M_isTold M_nodes M_plain M_minus M_block M_left M_right M_pivot M_live M_needed M_label M_tape M_of M_kept M_had M_told M_first M_second M_node M_nodeVariable M_nodeLow M_nodeHigh M_wait → WH D A s (WB ad ca T_length T_bytes C_size C_given C_empty C_drafted C_draftedGiven C_block C_left C_right C_pivot C_positive C_negative C_live C_needed R_kind R_place R_at R_token R_tokenPlace R_number R_state R_block R_positive R_negative R_left R_right R_pivot L_of F_cut F_labelledA F_labelledB F_row A_root A_words A_known G_size G_variable G_low G_high G_numberOf G_nodeOf G_sides G_waiting B_table B_nextTable ++ WM am ca M_clauses M_given M_end M_taped M_size M_at M_to M_sort M_worth M_faultKind M_faultPlace M_isTold M_nodes M_plain M_minus M_block M_left M_right M_pivot M_live M_needed M_label M_tape M_of M_kept M_had M_told M_first M_second M_node M_nodeVariable M_nodeLow M_nodeHigh M_wait) H locs → lv_has ls 4 [(0, .ref b), (1, .ref (ad 0)), (2, .ref (am 0)), (3, .int x3)] →
      W p l e room_1 s m #[Value.ref b] below meth c H locs 52 26422 (lw_Z below #[Value.ref b] s) (F0 m 18 ls []) := by
  have hx := C0.1
  have hb := C0.2.1
  have hbA : ¬ A b := by rw [hA0]; exact Nat.not_le.mpr hbl
  intro n
  induction n with
  | zero =>
    intro x3 T_length T_bytes C_size C_given C_empty C_drafted C_draftedGiven C_block C_left C_right C_pivot C_positive C_negative C_live C_needed R_kind R_place R_at R_token R_tokenPlace R_number R_state R_block R_positive R_negative R_left R_right R_pivot L_of F_cut F_labelledA F_labelledB F_row A_root A_words A_known G_size G_variable G_low G_high G_numberOf G_nodeOf G_sides G_waiting B_table B_nextTable M_clauses M_given M_end M_taped M_size M_at M_to M_sort M_worth M_faultKind M_faultPlace M_isTold M_nodes M_plain M_minus M_block M_left M_right M_pivot M_live M_needed M_label M_tape M_of M_kept M_had M_told M_first M_second M_node M_nodeVariable M_nodeLow M_nodeHigh M_wait H locs ls h
    exact False.elim h
  | succ n ih =>
    intro x3 T_length T_bytes C_size C_given C_empty C_drafted C_draftedGiven C_block C_left C_right C_pivot C_positive C_negative C_live C_needed R_kind R_place R_at R_token R_tokenPlace R_number R_state R_block R_positive R_negative R_left R_right R_pivot L_of F_cut F_labelledA F_labelledB F_row A_root A_words A_known G_size G_variable G_low G_high G_numberOf G_nodeOf G_sides G_waiting B_table B_nextTable M_clauses M_given M_end M_taped M_size M_at M_to M_sort M_worth M_faultKind M_faultPlace M_isTold M_nodes M_plain M_minus M_block M_left M_right M_pivot M_live M_needed M_label M_tape M_of M_kept M_had M_told M_first M_second M_node M_nodeVariable M_nodeLow M_nodeHigh M_wait H locs ls h hw hl
    unfold p_W_law_L18 at h
    refine lv_iload_n hx hb d_W_law_18 rfl (lv_at hl 3 rfl) ?_
    refine lv_aload_n hx hb d_W_law_19 rfl (lv_at hl 0 rfl) ?_
    refine va_slen hx hb hX hbl hbA hw.2.2 d_W_law_20 ?_
    refine lv_bipush (v := 6) hx hb d_W_law_21 (by decide) ?_
    refine lv_isub hx hb d_W_law_23 ?_
    refine lv_icmp_gt (tgt := 650) hx hb d_W_law_24 (by decide) (fun c_1 => ?_) (fun c_1 => ?_)
    · have h := h.1 c_1
      refine lv_iconst (v := 1) hx hb d_W_law_650 (by decide) ?_
      refine va_forget (fun q hq => by have := hw.2.2.2.2 q hq; rw [hA0] at this; exact this) ?_
      exact lw_ret hx hb C0.hr C0.lk d_W_law_651
    · have h := h.2 c_1
      refine lv_aload_n hx hb d_W_law_27 rfl (lv_at hl 0 rfl) ?_
      refine lv_iload_n hx hb d_W_law_28 rfl (lv_at hl 3 rfl) ?_
      obtain ⟨hi_2, h⟩ := h
      refine va_sld hx hb hX hbl hbA hw.2.2 hi_2 d_W_law_29 ?_
      refine lv_bipush (v := 31) hx hb d_W_law_30 (by decide) ?_
      refine lv_iand hx hb d_W_law_32 ?_
      by_cases c_3 : ((xs x3.toNatClampNeg) &&& (31 : Int32)) = (0 : Int32)
      · have h := h.1 c_3
        refine lv_tableIn (tgt := 120) (off := 87) hx hb d_W_law_33 (by rw [c_3]; decide) (by rw [c_3]; decide) (by rw [c_3]; rfl) (by decide) ?_
        refine lv_aload_n hx hb d_W_law_120 rfl (lv_at hl 1 rfl) ?_
        refine lv_aload_n hx hb d_W_law_121 rfl (lv_at hl 0 rfl) ?_
        refine lv_iload_n hx hb d_W_law_122 rfl (lv_at hl 3 rfl) ?_
        refine lv_iconst (v := 1) hx hb d_W_law_123 (by decide) ?_
        refine lv_iadd hx hb d_W_law_124 ?_
        obtain ⟨hi_4, h⟩ := h
        refine va_sld hx hb hX hbl hbA hw.2.2 hi_4 d_W_law_125 ?_
        refine lv_aload_n hx hb d_W_law_126 rfl (lv_at hl 0 rfl) ?_
        refine lv_iload_n hx hb d_W_law_127 rfl (lv_at hl 3 rfl) ?_
        refine lv_iconst (v := 2) hx hb d_W_law_128 (by decide) ?_
        refine lv_iadd hx hb d_W_law_129 ?_
        obtain ⟨hi_5, h⟩ := h
        refine va_sld hx hb hX hbl hbA hw.2.2 hi_5 d_W_law_130 ?_
        refine lv_aload_n hx hb d_W_law_131 rfl (lv_at hl 0 rfl) ?_
        refine lv_iload_n hx hb d_W_law_132 rfl (lv_at hl 3 rfl) ?_
        refine lv_iconst (v := 3) hx hb d_W_law_133 (by decide) ?_
        refine lv_iadd hx hb d_W_law_134 ?_
        obtain ⟨hi_6, h⟩ := h
        refine va_sld hx hb hX hbl hbA hw.2.2 hi_6 d_W_law_135 ?_
        refine lv_aload_n hx hb d_W_law_136 rfl (lv_at hl 0 rfl) ?_
        refine lv_iload_n hx hb d_W_law_137 rfl (lv_at hl 3 rfl) ?_
        refine lv_iconst (v := 4) hx hb d_W_law_138 (by decide) ?_
        refine lv_iadd hx hb d_W_law_139 ?_
        obtain ⟨hi_7, h⟩ := h
        refine va_sld hx hb hX hbl hbA hw.2.2 hi_7 d_W_law_140 ?_
        refine lv_aload_n hx hb d_W_law_141 rfl (lv_at hl 0 rfl) ?_
        refine lv_iload_n hx hb d_W_law_142 rfl (lv_at hl 3 rfl) ?_
        refine lv_iconst (v := 5) hx hb d_W_law_143 (by decide) ?_
        refine lv_iadd hx hb d_W_law_144 ?_
        obtain ⟨hi_8, h⟩ := h
        refine va_sld hx hb hX hbl hbA hw.2.2 hi_8 d_W_law_145 ?_
        refine x_callVi C0 hw hl (MTi.frR (pre := (WM am ca M_clauses M_given M_end M_taped M_size M_at M_to M_sort M_worth M_faultKind M_faultPlace M_isTold M_nodes M_plain M_minus M_block M_left M_right M_pivot M_live M_needed M_label M_tape M_of M_kept M_had M_told M_first M_second M_node M_nodeVariable M_nodeLow M_nodeHigh M_wait)) (c_B_feed h)) g_B_feed wm_329 ⟨wm_331, wm_330⟩ 0 rfl rfl rfl (As := [.int (xs (x3 + (1 : Int32)).toNatClampNeg), .int (xs (x3 + (2 : Int32)).toNatClampNeg), .int (xs (x3 + (3 : Int32)).toNatClampNeg), .int (xs (x3 + (4 : Int32)).toNatClampNeg), .int (xs (x3 + (5 : Int32)).toNatClampNeg)]) (rest := []) rfl rfl (Nat.le_of_ble_eq_true rfl) ⟨rfl, rfl⟩ ⟨Nat.le_of_ble_eq_true rfl, Nat.le_of_ble_eq_true rfl⟩ ⟨Nat.le_of_ble_eq_true rfl, Nat.le_of_ble_eq_true rfl⟩ d_W_law_146 (fun r_11 u H locs h hw => ?_)
        obtain ⟨T_length_9, T_bytes_10⟩ := u
        refine lv_aload_n hx hb d_W_law_149 rfl (lv_at hl 2 rfl) ?_
        refine lv_aload_n hx hb d_W_law_150 rfl (lv_at hl 0 rfl) ?_
        refine lv_iload_n hx hb d_W_law_151 rfl (lv_at hl 3 rfl) ?_
        refine lv_iconst (v := 1) hx hb d_W_law_152 (by decide) ?_
        refine lv_iadd hx hb d_W_law_153 ?_
        refine va_sld hx hb hX hbl hbA hw.2.2 hi_4 d_W_law_154 ?_
        refine lv_aload_n hx hb d_W_law_155 rfl (lv_at hl 0 rfl) ?_
        refine lv_iload_n hx hb d_W_law_156 rfl (lv_at hl 3 rfl) ?_
        refine lv_iconst (v := 2) hx hb d_W_law_157 (by decide) ?_
        refine lv_iadd hx hb d_W_law_158 ?_
        refine va_sld hx hb hX hbl hbA hw.2.2 hi_5 d_W_law_159 ?_
        refine lv_aload_n hx hb d_W_law_160 rfl (lv_at hl 0 rfl) ?_
        refine lv_iload_n hx hb d_W_law_161 rfl (lv_at hl 3 rfl) ?_
        refine lv_iconst (v := 3) hx hb d_W_law_162 (by decide) ?_
        refine lv_iadd hx hb d_W_law_163 ?_
        refine va_sld hx hb hX hbl hbA hw.2.2 hi_6 d_W_law_164 ?_
        refine lv_aload_n hx hb d_W_law_165 rfl (lv_at hl 0 rfl) ?_
        refine lv_iload_n hx hb d_W_law_166 rfl (lv_at hl 3 rfl) ?_
        refine lv_iconst (v := 4) hx hb d_W_law_167 (by decide) ?_
        refine lv_iadd hx hb d_W_law_168 ?_
        refine va_sld hx hb hX hbl hbA hw.2.2 hi_7 d_W_law_169 ?_
        refine lv_aload_n hx hb d_W_law_170 rfl (lv_at hl 0 rfl) ?_
        refine lv_iload_n hx hb d_W_law_171 rfl (lv_at hl 3 rfl) ?_
        refine lv_iconst (v := 5) hx hb d_W_law_172 (by decide) ?_
        refine lv_iadd hx hb d_W_law_173 ?_
        refine va_sld hx hb hX hbl hbA hw.2.2 hi_8 d_W_law_174 ?_
        refine x_callVi C0 hw hl (MTi.frL (pre := (WB ad ca T_length_9 T_bytes_10 C_size C_given C_empty C_drafted C_draftedGiven C_block C_left C_right C_pivot C_positive C_negative C_live C_needed R_kind R_place R_at R_token R_tokenPlace R_number R_state R_block R_positive R_negative R_left R_right R_pivot L_of F_cut F_labelledA F_labelledB F_row A_root A_words A_known G_size G_variable G_low G_high G_numberOf G_nodeOf G_sides G_waiting B_table B_nextTable)) (c_M_feed h)) g_M_feed wm_828 ⟨wm_830, wm_829⟩ 30 rfl rfl rfl (As := [.int (xs (x3 + (1 : Int32)).toNatClampNeg), .int (xs (x3 + (2 : Int32)).toNatClampNeg), .int (xs (x3 + (3 : Int32)).toNatClampNeg), .int (xs (x3 + (4 : Int32)).toNatClampNeg), .int (xs (x3 + (5 : Int32)).toNatClampNeg)]) (rest := [.int r_11]) rfl rfl (Nat.le_of_ble_eq_true rfl) ⟨rfl, rfl⟩ ⟨Nat.le_of_ble_eq_true rfl, Nat.le_of_ble_eq_true rfl⟩ ⟨Nat.le_of_ble_eq_true rfl, Nat.le_of_ble_eq_true rfl⟩ d_W_law_175 (fun r_14 u H locs h hw => ?_)
        obtain ⟨M_taped_12, M_tape_13⟩ := u
        refine lv_icmp_eq (tgt := 644) hx hb d_W_law_178 (by decide) (fun c_15 => ?_) (fun c_15 => ?_)
        · have h := h.1 c_15
          refine lv_iinc (v := (x3 + 6)) (lv' := [(3, .int (x3 + 6)), (0, .ref b), (1, .ref (ad 0)), (2, .ref (am 0))]) hx hb d_W_law_644 hl (k := 3) rfl rfl (by decide) rfl (fun ls hl => ?_)
          refine lv_goto (tgt := 18) hx hb d_W_law_647 (by decide) ?_
          exact ih _ _ _ _ _ _ _ _ _ _ _ _ _ _ _ _ _ _ _ _ _ _ _ _ _ _ _ _ _ _ _ _ _ _ _ _ _ _ _ _ _ _ _ _ _ _ _ _ _ _ _ _ _ _ _ _ _ _ _ _ _ _ _ _ _ _ _ _ _ _ _ _ _ _ _ _ _ _ _ _ _ h hw (lv_sub hl [1, 2, 3, 0] rfl)
        · have h := h.2 c_15
          refine lv_iconst (v := 0) hx hb d_W_law_181 (by decide) ?_
          exact h.elim
      by_cases c_16 : ((xs x3.toNatClampNeg) &&& (31 : Int32)) = (1 : Int32)
      · have h := h.2.1 c_16
        refine lv_tableIn (tgt := 183) (off := 150) hx hb d_W_law_33 (by rw [c_16]; decide) (by rw [c_16]; decide) (by rw [c_16]; rfl) (by decide) ?_
        refine lv_aload_n hx hb d_W_law_183 rfl (lv_at hl 1 rfl) ?_
        refine lv_aload_n hx hb d_W_law_184 rfl (lv_at hl 0 rfl) ?_
        refine lv_iload_n hx hb d_W_law_185 rfl (lv_at hl 3 rfl) ?_
        refine lv_iconst (v := 1) hx hb d_W_law_186 (by decide) ?_
        refine lv_iadd hx hb d_W_law_187 ?_
        obtain ⟨hi_17, h⟩ := h
        refine va_sld hx hb hX hbl hbA hw.2.2 hi_17 d_W_law_188 ?_
        refine x_callVi C0 hw hl (MTi.frR (pre := (WM am ca M_clauses M_given M_end M_taped M_size M_at M_to M_sort M_worth M_faultKind M_faultPlace M_isTold M_nodes M_plain M_minus M_block M_left M_right M_pivot M_live M_needed M_label M_tape M_of M_kept M_had M_told M_first M_second M_node M_nodeVariable M_nodeLow M_nodeHigh M_wait)) (c_B_end_ h)) g_B_end_ wm_337 ⟨wm_339, wm_338⟩ 0 rfl rfl rfl (As := [.int (xs (x3 + (1 : Int32)).toNatClampNeg)]) (rest := []) rfl rfl (Nat.le_of_ble_eq_true rfl) ⟨rfl, rfl⟩ ⟨Nat.le_of_ble_eq_true rfl, Nat.le_of_ble_eq_true rfl⟩ ⟨Nat.le_of_ble_eq_true rfl, Nat.le_of_ble_eq_true rfl⟩ d_W_law_189 (fun r_19 u H locs h hw => ?_)
        obtain ⟨T_length_18, rfl⟩ : ∃ z, z = u := ⟨_, rfl⟩
        refine lv_aload_n hx hb d_W_law_192 rfl (lv_at hl 2 rfl) ?_
        refine lv_aload_n hx hb d_W_law_193 rfl (lv_at hl 0 rfl) ?_
        refine lv_iload_n hx hb d_W_law_194 rfl (lv_at hl 3 rfl) ?_
        refine lv_iconst (v := 1) hx hb d_W_law_195 (by decide) ?_
        refine lv_iadd hx hb d_W_law_196 ?_
        refine va_sld hx hb hX hbl hbA hw.2.2 hi_17 d_W_law_197 ?_
        refine x_callVi C0 hw hl (MTi.frL (pre := (WB ad ca T_length_18 T_bytes C_size C_given C_empty C_drafted C_draftedGiven C_block C_left C_right C_pivot C_positive C_negative C_live C_needed R_kind R_place R_at R_token R_tokenPlace R_number R_state R_block R_positive R_negative R_left R_right R_pivot L_of F_cut F_labelledA F_labelledB F_row A_root A_words A_known G_size G_variable G_low G_high G_numberOf G_nodeOf G_sides G_waiting B_table B_nextTable)) (c_M_end_ h)) g_M_end_ wm_832 ⟨wm_834, wm_833⟩ 30 rfl rfl rfl (As := [.int (xs (x3 + (1 : Int32)).toNatClampNeg)]) (rest := [.int r_19]) rfl rfl (Nat.le_of_ble_eq_true rfl) ⟨rfl, rfl⟩ ⟨Nat.le_of_ble_eq_true rfl, Nat.le_of_ble_eq_true rfl⟩ ⟨Nat.le_of_ble_eq_true rfl, Nat.le_of_ble_eq_true rfl⟩ d_W_law_198 (fun r_21 u H locs h hw => ?_)
        obtain ⟨M_taped_20, rfl⟩ : ∃ z, z = u := ⟨_, rfl⟩
        refine lv_icmp_eq (tgt := 644) hx hb d_W_law_201 (by decide) (fun c_22 => ?_) (fun c_22 => ?_)
        · have h := h.1 c_22
          refine lv_iinc (v := (x3 + 6)) (lv' := [(3, .int (x3 + 6)), (0, .ref b), (1, .ref (ad 0)), (2, .ref (am 0))]) hx hb d_W_law_644 hl (k := 3) rfl rfl (by decide) rfl (fun ls hl => ?_)
          refine lv_goto (tgt := 18) hx hb d_W_law_647 (by decide) ?_
          exact ih _ _ _ _ _ _ _ _ _ _ _ _ _ _ _ _ _ _ _ _ _ _ _ _ _ _ _ _ _ _ _ _ _ _ _ _ _ _ _ _ _ _ _ _ _ _ _ _ _ _ _ _ _ _ _ _ _ _ _ _ _ _ _ _ _ _ _ _ _ _ _ _ _ _ _ _ _ _ _ _ _ h hw (lv_sub hl [1, 2, 3, 0] rfl)
        · have h := h.2 c_22
          refine lv_iconst (v := 0) hx hb d_W_law_204 (by decide) ?_
          exact h.elim
      by_cases c_23 : ((xs x3.toNatClampNeg) &&& (31 : Int32)) = (2 : Int32)
      · have h := h.2.2.1 c_23
        refine lv_tableIn (tgt := 206) (off := 173) hx hb d_W_law_33 (by rw [c_23]; decide) (by rw [c_23]; decide) (by rw [c_23]; rfl) (by decide) ?_
        refine lv_aload_n hx hb d_W_law_206 rfl (lv_at hl 1 rfl) ?_
        refine x_callVi C0 hw hl (MTi.frR (pre := (WM am ca M_clauses M_given M_end M_taped M_size M_at M_to M_sort M_worth M_faultKind M_faultPlace M_isTold M_nodes M_plain M_minus M_block M_left M_right M_pivot M_live M_needed M_label M_tape M_of M_kept M_had M_told M_first M_second M_node M_nodeVariable M_nodeLow M_nodeHigh M_wait)) (c_B_read h)) g_B_read wm_341 ⟨wm_343, wm_342⟩ 0 rfl rfl rfl (As := []) (rest := []) rfl rfl (Nat.le_of_ble_eq_true rfl) ⟨rfl, rfl⟩ ⟨Nat.le_of_ble_eq_true rfl, Nat.le_of_ble_eq_true rfl⟩ ⟨Nat.le_of_ble_eq_true rfl, Nat.le_of_ble_eq_true rfl⟩ d_W_law_207 (fun r_51 u H locs h hw => ?_)
        obtain ⟨T_length_24, C_size_25, C_given_26, C_empty_27, C_drafted_28, C_draftedGiven_29, C_block_30, C_left_31, C_right_32, C_pivot_33, C_positive_34, C_negative_35, C_live_36, C_needed_37, R_kind_38, R_place_39, R_at_40, R_token_41, R_tokenPlace_42, R_number_43, R_state_44, R_block_45, R_positive_46, R_negative_47, R_left_48, R_right_49, R_pivot_50⟩ := u
        refine lv_aload_n hx hb d_W_law_210 rfl (lv_at hl 2 rfl) ?_
        refine x_callVi C0 hw hl (MTi.frL (pre := (WB ad ca T_length_24 T_bytes C_size_25 C_given_26 C_empty_27 C_drafted_28 C_draftedGiven_29 C_block_30 C_left_31 C_right_32 C_pivot_33 C_positive_34 C_negative_35 C_live_36 C_needed_37 R_kind_38 R_place_39 R_at_40 R_token_41 R_tokenPlace_42 R_number_43 R_state_44 R_block_45 R_positive_46 R_negative_47 R_left_48 R_right_49 R_pivot_50 L_of F_cut F_labelledA F_labelledB F_row A_root A_words A_known G_size G_variable G_low G_high G_numberOf G_nodeOf G_sides G_waiting B_table B_nextTable)) (c_M_read h)) g_M_read wm_836 ⟨wm_838, wm_837⟩ 30 rfl rfl rfl (As := []) (rest := [.int r_51]) rfl rfl (Nat.le_of_ble_eq_true rfl) ⟨rfl, rfl⟩ ⟨Nat.le_of_ble_eq_true rfl, Nat.le_of_ble_eq_true rfl⟩ ⟨Nat.le_of_ble_eq_true rfl, Nat.le_of_ble_eq_true rfl⟩ d_W_law_211 (fun r_71 u H locs h hw => ?_)
        obtain ⟨M_clauses_52, M_given_53, M_end_54, M_taped_55, M_size_56, M_at_57, M_to_58, M_sort_59, M_worth_60, M_faultKind_61, M_faultPlace_62, M_plain_63, M_minus_64, M_block_65, M_left_66, M_right_67, M_pivot_68, M_live_69, M_needed_70⟩ := u
        refine lv_icmp_eq (tgt := 644) hx hb d_W_law_214 (by decide) (fun c_72 => ?_) (fun c_72 => ?_)
        · have h := h.1 c_72
          refine lv_iinc (v := (x3 + 6)) (lv' := [(3, .int (x3 + 6)), (0, .ref b), (1, .ref (ad 0)), (2, .ref (am 0))]) hx hb d_W_law_644 hl (k := 3) rfl rfl (by decide) rfl (fun ls hl => ?_)
          refine lv_goto (tgt := 18) hx hb d_W_law_647 (by decide) ?_
          exact ih _ _ _ _ _ _ _ _ _ _ _ _ _ _ _ _ _ _ _ _ _ _ _ _ _ _ _ _ _ _ _ _ _ _ _ _ _ _ _ _ _ _ _ _ _ _ _ _ _ _ _ _ _ _ _ _ _ _ _ _ _ _ _ _ _ _ _ _ _ _ _ _ _ _ _ _ _ _ _ _ _ h hw (lv_sub hl [1, 2, 3, 0] rfl)
        · have h := h.2 c_72
          refine lv_iconst (v := 0) hx hb d_W_law_217 (by decide) ?_
          exact h.elim
      by_cases c_73 : ((xs x3.toNatClampNeg) &&& (31 : Int32)) = (3 : Int32)
      · have h := h.2.2.2.1 c_73
        refine lv_tableIn (tgt := 219) (off := 186) hx hb d_W_law_33 (by rw [c_73]; decide) (by rw [c_73]; decide) (by rw [c_73]; rfl) (by decide) ?_
        refine lv_aload_n hx hb d_W_law_219 rfl (lv_at hl 1 rfl) ?_
        refine lv_aload_n hx hb d_W_law_220 rfl (lv_at hl 0 rfl) ?_
        refine lv_iload_n hx hb d_W_law_221 rfl (lv_at hl 3 rfl) ?_
        refine lv_iconst (v := 1) hx hb d_W_law_222 (by decide) ?_
        refine lv_iadd hx hb d_W_law_223 ?_
        obtain ⟨hi_74, h⟩ := h
        refine va_sld hx hb hX hbl hbA hw.2.2 hi_74 d_W_law_224 ?_
        refine x_callVi C0 hw hl (MTi.frR (pre := (WM am ca M_clauses M_given M_end M_taped M_size M_at M_to M_sort M_worth M_faultKind M_faultPlace M_isTold M_nodes M_plain M_minus M_block M_left M_right M_pivot M_live M_needed M_label M_tape M_of M_kept M_had M_told M_first M_second M_node M_nodeVariable M_nodeLow M_nodeHigh M_wait)) (c_B_fault h)) g_B_fault wm_496 ⟨wm_498, wm_497⟩ 0 rfl rfl rfl (As := [.int (xs (x3 + (1 : Int32)).toNatClampNeg)]) (rest := []) rfl rfl (Nat.le_of_ble_eq_true rfl) ⟨rfl, rfl⟩ ⟨Nat.le_of_ble_eq_true rfl, Nat.le_of_ble_eq_true rfl⟩ ⟨Nat.le_of_ble_eq_true rfl, Nat.le_of_ble_eq_true rfl⟩ d_W_law_225 (fun r_75 u H locs h hw => ?_)
        refine lv_aload_n hx hb d_W_law_228 rfl (lv_at hl 2 rfl) ?_
        refine lv_aload_n hx hb d_W_law_229 rfl (lv_at hl 0 rfl) ?_
        refine lv_iload_n hx hb d_W_law_230 rfl (lv_at hl 3 rfl) ?_
        refine lv_iconst (v := 1) hx hb d_W_law_231 (by decide) ?_
        refine lv_iadd hx hb d_W_law_232 ?_
        refine va_sld hx hb hX hbl hbA hw.2.2 hi_74 d_W_law_233 ?_
        refine x_callVi C0 hw hl (MTi.frL (pre := (WB ad ca T_length T_bytes C_size C_given C_empty C_drafted C_draftedGiven C_block C_left C_right C_pivot C_positive C_negative C_live C_needed R_kind R_place R_at R_token R_tokenPlace R_number R_state R_block R_positive R_negative R_left R_right R_pivot L_of F_cut F_labelledA F_labelledB F_row A_root A_words A_known G_size G_variable G_low G_high G_numberOf G_nodeOf G_sides G_waiting B_table B_nextTable)) (c_M_fault h)) g_M_fault wm_879 ⟨wm_881, wm_880⟩ 30 rfl rfl rfl (As := [.int (xs (x3 + (1 : Int32)).toNatClampNeg)]) (rest := [.int r_75]) rfl rfl (Nat.le_of_ble_eq_true rfl) ⟨rfl, rfl⟩ ⟨Nat.le_of_ble_eq_true rfl, Nat.le_of_ble_eq_true rfl⟩ ⟨Nat.le_of_ble_eq_true rfl, Nat.le_of_ble_eq_true rfl⟩ d_W_law_234 (fun r_76 u H locs h hw => ?_)
        refine lv_icmp_eq (tgt := 644) hx hb d_W_law_237 (by decide) (fun c_77 => ?_) (fun c_77 => ?_)
        · have h := h.1 c_77
          refine lv_iinc (v := (x3 + 6)) (lv' := [(3, .int (x3 + 6)), (0, .ref b), (1, .ref (ad 0)), (2, .ref (am 0))]) hx hb d_W_law_644 hl (k := 3) rfl rfl (by decide) rfl (fun ls hl => ?_)
          refine lv_goto (tgt := 18) hx hb d_W_law_647 (by decide) ?_
          exact ih _ _ _ _ _ _ _ _ _ _ _ _ _ _ _ _ _ _ _ _ _ _ _ _ _ _ _ _ _ _ _ _ _ _ _ _ _ _ _ _ _ _ _ _ _ _ _ _ _ _ _ _ _ _ _ _ _ _ _ _ _ _ _ _ _ _ _ _ _ _ _ _ _ _ _ _ _ _ _ _ _ h hw (lv_sub hl [1, 2, 3, 0] rfl)
        · have h := h.2 c_77
          refine lv_iconst (v := 0) hx hb d_W_law_240 (by decide) ?_
          exact h.elim
      by_cases c_78 : ((xs x3.toNatClampNeg) &&& (31 : Int32)) = (4 : Int32)
      · have h := h.2.2.2.2.1 c_78
        refine lv_tableIn (tgt := 242) (off := 209) hx hb d_W_law_33 (by rw [c_78]; decide) (by rw [c_78]; decide) (by rw [c_78]; rfl) (by decide) ?_
        refine lv_aload_n hx hb d_W_law_242 rfl (lv_at hl 1 rfl) ?_
        refine x_callVi C0 hw hl (MTi.frR (pre := (WM am ca M_clauses M_given M_end M_taped M_size M_at M_to M_sort M_worth M_faultKind M_faultPlace M_isTold M_nodes M_plain M_minus M_block M_left M_right M_pivot M_live M_needed M_label M_tape M_of M_kept M_had M_told M_first M_second M_node M_nodeVariable M_nodeLow M_nodeHigh M_wait)) (c_B_clear h)) g_B_clear wm_500 ⟨wm_502, wm_501⟩ 0 rfl rfl rfl (As := []) (rest := []) rfl rfl (Nat.le_of_ble_eq_true rfl) ⟨rfl, rfl⟩ ⟨Nat.le_of_ble_eq_true rfl, Nat.le_of_ble_eq_true rfl⟩ ⟨Nat.le_of_ble_eq_true rfl, Nat.le_of_ble_eq_true rfl⟩ d_W_law_243 (fun r_83 u H locs h hw => ?_)
        obtain ⟨C_size_79, C_given_80, C_empty_81, L_of_82⟩ := u
        refine lv_aload_n hx hb d_W_law_246 rfl (lv_at hl 2 rfl) ?_
        refine x_callVi C0 hw hl (MTi.frL (pre := (WB ad ca T_length T_bytes C_size_79 C_given_80 C_empty_81 C_drafted C_draftedGiven C_block C_left C_right C_pivot C_positive C_negative C_live C_needed R_kind R_place R_at R_token R_tokenPlace R_number R_state R_block R_positive R_negative R_left R_right R_pivot L_of_82 F_cut F_labelledA F_labelledB F_row A_root A_words A_known G_size G_variable G_low G_high G_numberOf G_nodeOf G_sides G_waiting B_table B_nextTable)) (c_M_clear h)) g_M_clear wm_883 ⟨wm_885, wm_884⟩ 30 rfl rfl rfl (As := []) (rest := [.int r_83]) rfl rfl (Nat.le_of_ble_eq_true rfl) ⟨rfl, rfl⟩ ⟨Nat.le_of_ble_eq_true rfl, Nat.le_of_ble_eq_true rfl⟩ ⟨Nat.le_of_ble_eq_true rfl, Nat.le_of_ble_eq_true rfl⟩ d_W_law_247 (fun r_89 u H locs h hw => ?_)
        obtain ⟨M_clauses_84, M_given_85, M_end_86, M_needed_87, M_label_88⟩ := u
        refine lv_icmp_eq (tgt := 644) hx hb d_W_law_250 (by decide) (fun c_90 => ?_) (fun c_90 => ?_)
        · have h := h.1 c_90
          refine lv_iinc (v := (x3 + 6)) (lv' := [(3, .int (x3 + 6)), (0, .ref b), (1, .ref (ad 0)), (2, .ref (am 0))]) hx hb d_W_law_644 hl (k := 3) rfl rfl (by decide) rfl (fun ls hl => ?_)
          refine lv_goto (tgt := 18) hx hb d_W_law_647 (by decide) ?_
          exact ih _ _ _ _ _ _ _ _ _ _ _ _ _ _ _ _ _ _ _ _ _ _ _ _ _ _ _ _ _ _ _ _ _ _ _ _ _ _ _ _ _ _ _ _ _ _ _ _ _ _ _ _ _ _ _ _ _ _ _ _ _ _ _ _ _ _ _ _ _ _ _ _ _ _ _ _ _ _ _ _ _ h hw (lv_sub hl [1, 2, 3, 0] rfl)
        · have h := h.2 c_90
          refine lv_iconst (v := 0) hx hb d_W_law_253 (by decide) ?_
          exact h.elim
      by_cases c_91 : ((xs x3.toNatClampNeg) &&& (31 : Int32)) = (5 : Int32)
      · have h := h.2.2.2.2.2.1 c_91
        refine lv_tableIn (tgt := 255) (off := 222) hx hb d_W_law_33 (by rw [c_91]; decide) (by rw [c_91]; decide) (by rw [c_91]; rfl) (by decide) ?_
        refine lv_aload_n hx hb d_W_law_255 rfl (lv_at hl 1 rfl) ?_
        refine lv_aload_n hx hb d_W_law_256 rfl (lv_at hl 0 rfl) ?_
        refine lv_iload_n hx hb d_W_law_257 rfl (lv_at hl 3 rfl) ?_
        refine lv_iconst (v := 1) hx hb d_W_law_258 (by decide) ?_
        refine lv_iadd hx hb d_W_law_259 ?_
        obtain ⟨hi_92, h⟩ := h
        refine va_sld hx hb hX hbl hbA hw.2.2 hi_92 d_W_law_260 ?_
        refine lv_aload_n hx hb d_W_law_261 rfl (lv_at hl 0 rfl) ?_
        refine lv_iload_n hx hb d_W_law_262 rfl (lv_at hl 3 rfl) ?_
        refine lv_iconst (v := 2) hx hb d_W_law_263 (by decide) ?_
        refine lv_iadd hx hb d_W_law_264 ?_
        obtain ⟨hi_93, h⟩ := h
        refine va_sld hx hb hX hbl hbA hw.2.2 hi_93 d_W_law_265 ?_
        refine x_callVi C0 hw hl (MTi.frR (pre := (WM am ca M_clauses M_given M_end M_taped M_size M_at M_to M_sort M_worth M_faultKind M_faultPlace M_isTold M_nodes M_plain M_minus M_block M_left M_right M_pivot M_live M_needed M_label M_tape M_of M_kept M_had M_told M_first M_second M_node M_nodeVariable M_nodeLow M_nodeHigh M_wait)) (c_B_clause h)) g_B_clause wm_512 ⟨wm_514, wm_513⟩ 0 rfl rfl rfl (As := [.int (xs (x3 + (1 : Int32)).toNatClampNeg), .int (xs (x3 + (2 : Int32)).toNatClampNeg)]) (rest := []) rfl rfl (Nat.le_of_ble_eq_true rfl) ⟨rfl, rfl⟩ ⟨Nat.le_of_ble_eq_true rfl, Nat.le_of_ble_eq_true rfl⟩ ⟨Nat.le_of_ble_eq_true rfl, Nat.le_of_ble_eq_true rfl⟩ d_W_law_266 (fun r_94 u H locs h hw => ?_)
        refine lv_aload_n hx hb d_W_law_269 rfl (lv_at hl 2 rfl) ?_
        refine lv_aload_n hx hb d_W_law_270 rfl (lv_at hl 0 rfl) ?_
        refine lv_iload_n hx hb d_W_law_271 rfl (lv_at hl 3 rfl) ?_
        refine lv_iconst (v := 1) hx hb d_W_law_272 (by decide) ?_
        refine lv_iadd hx hb d_W_law_273 ?_
        refine va_sld hx hb hX hbl hbA hw.2.2 hi_92 d_W_law_274 ?_
        refine lv_aload_n hx hb d_W_law_275 rfl (lv_at hl 0 rfl) ?_
        refine lv_iload_n hx hb d_W_law_276 rfl (lv_at hl 3 rfl) ?_
        refine lv_iconst (v := 2) hx hb d_W_law_277 (by decide) ?_
        refine lv_iadd hx hb d_W_law_278 ?_
        refine va_sld hx hb hX hbl hbA hw.2.2 hi_93 d_W_law_279 ?_
        refine x_callVi C0 hw hl (MTi.frL (pre := (WB ad ca T_length T_bytes C_size C_given C_empty C_drafted C_draftedGiven C_block C_left C_right C_pivot C_positive C_negative C_live C_needed R_kind R_place R_at R_token R_tokenPlace R_number R_state R_block R_positive R_negative R_left R_right R_pivot L_of F_cut F_labelledA F_labelledB F_row A_root A_words A_known G_size G_variable G_low G_high G_numberOf G_nodeOf G_sides G_waiting B_table B_nextTable)) (c_M_clause h)) g_M_clause wm_887 ⟨wm_889, wm_888⟩ 30 rfl rfl rfl (As := [.int (xs (x3 + (1 : Int32)).toNatClampNeg), .int (xs (x3 + (2 : Int32)).toNatClampNeg)]) (rest := [.int r_94]) rfl rfl (Nat.le_of_ble_eq_true rfl) ⟨rfl, rfl⟩ ⟨Nat.le_of_ble_eq_true rfl, Nat.le_of_ble_eq_true rfl⟩ ⟨Nat.le_of_ble_eq_true rfl, Nat.le_of_ble_eq_true rfl⟩ d_W_law_280 (fun r_95 u H locs h hw => ?_)
        refine lv_icmp_eq (tgt := 644) hx hb d_W_law_283 (by decide) (fun c_96 => ?_) (fun c_96 => ?_)
        · have h := h.1 c_96
          refine lv_iinc (v := (x3 + 6)) (lv' := [(3, .int (x3 + 6)), (0, .ref b), (1, .ref (ad 0)), (2, .ref (am 0))]) hx hb d_W_law_644 hl (k := 3) rfl rfl (by decide) rfl (fun ls hl => ?_)
          refine lv_goto (tgt := 18) hx hb d_W_law_647 (by decide) ?_
          exact ih _ _ _ _ _ _ _ _ _ _ _ _ _ _ _ _ _ _ _ _ _ _ _ _ _ _ _ _ _ _ _ _ _ _ _ _ _ _ _ _ _ _ _ _ _ _ _ _ _ _ _ _ _ _ _ _ _ _ _ _ _ _ _ _ _ _ _ _ _ _ _ _ _ _ _ _ _ _ _ _ _ h hw (lv_sub hl [1, 2, 3, 0] rfl)
        · have h := h.2 c_96
          refine lv_iconst (v := 0) hx hb d_W_law_286 (by decide) ?_
          exact h.elim
      by_cases c_97 : ((xs x3.toNatClampNeg) &&& (31 : Int32)) = (6 : Int32)
      · have h := h.2.2.2.2.2.2.1 c_97
        refine lv_tableIn (tgt := 288) (off := 255) hx hb d_W_law_33 (by rw [c_97]; decide) (by rw [c_97]; decide) (by rw [c_97]; rfl) (by decide) ?_
        refine lv_aload_n hx hb d_W_law_288 rfl (lv_at hl 1 rfl) ?_
        refine x_callVi C0 hw hl (MTi.frR (pre := (WM am ca M_clauses M_given M_end M_taped M_size M_at M_to M_sort M_worth M_faultKind M_faultPlace M_isTold M_nodes M_plain M_minus M_block M_left M_right M_pivot M_live M_needed M_label M_tape M_of M_kept M_had M_told M_first M_second M_node M_nodeVariable M_nodeLow M_nodeHigh M_wait)) (c_B_refutation h)) g_B_refutation wm_516 ⟨wm_518, wm_517⟩ 0 rfl rfl rfl (As := []) (rest := []) rfl rfl (Nat.le_of_ble_eq_true rfl) ⟨rfl, rfl⟩ ⟨Nat.le_of_ble_eq_true rfl, Nat.le_of_ble_eq_true rfl⟩ ⟨Nat.le_of_ble_eq_true rfl, Nat.le_of_ble_eq_true rfl⟩ d_W_law_289 (fun r_98 u H locs h hw => ?_)
        refine lv_aload_n hx hb d_W_law_292 rfl (lv_at hl 2 rfl) ?_
        refine x_callVi C0 hw hl (MTi.frL (pre := (WB ad ca T_length T_bytes C_size C_given C_empty C_drafted C_draftedGiven C_block C_left C_right C_pivot C_positive C_negative C_live C_needed R_kind R_place R_at R_token R_tokenPlace R_number R_state R_block R_positive R_negative R_left R_right R_pivot L_of F_cut F_labelledA F_labelledB F_row A_root A_words A_known G_size G_variable G_low G_high G_numberOf G_nodeOf G_sides G_waiting B_table B_nextTable)) (c_M_refutation h)) g_M_refutation wm_894 ⟨wm_896, wm_895⟩ 30 rfl rfl rfl (As := []) (rest := [.int r_98]) rfl rfl (Nat.le_of_ble_eq_true rfl) ⟨rfl, rfl⟩ ⟨Nat.le_of_ble_eq_true rfl, Nat.le_of_ble_eq_true rfl⟩ ⟨Nat.le_of_ble_eq_true rfl, Nat.le_of_ble_eq_true rfl⟩ d_W_law_293 (fun r_99 u H locs h hw => ?_)
        refine lv_icmp_eq (tgt := 644) hx hb d_W_law_296 (by decide) (fun c_100 => ?_) (fun c_100 => ?_)
        · have h := h.1 c_100
          refine lv_iinc (v := (x3 + 6)) (lv' := [(3, .int (x3 + 6)), (0, .ref b), (1, .ref (ad 0)), (2, .ref (am 0))]) hx hb d_W_law_644 hl (k := 3) rfl rfl (by decide) rfl (fun ls hl => ?_)
          refine lv_goto (tgt := 18) hx hb d_W_law_647 (by decide) ?_
          exact ih _ _ _ _ _ _ _ _ _ _ _ _ _ _ _ _ _ _ _ _ _ _ _ _ _ _ _ _ _ _ _ _ _ _ _ _ _ _ _ _ _ _ _ _ _ _ _ _ _ _ _ _ _ _ _ _ _ _ _ _ _ _ _ _ _ _ _ _ _ _ _ _ _ _ _ _ _ _ _ _ _ h hw (lv_sub hl [1, 2, 3, 0] rfl)
        · have h := h.2 c_100
          refine lv_iconst (v := 0) hx hb d_W_law_299 (by decide) ?_
          exact h.elim
      by_cases c_101 : ((xs x3.toNatClampNeg) &&& (31 : Int32)) = (7 : Int32)
      · have h := h.2.2.2.2.2.2.2.1 c_101
        refine lv_tableIn (tgt := 301) (off := 268) hx hb d_W_law_33 (by rw [c_101]; decide) (by rw [c_101]; decide) (by rw [c_101]; rfl) (by decide) ?_
        refine lv_aload_n hx hb d_W_law_301 rfl (lv_at hl 1 rfl) ?_
        refine lv_aload_n hx hb d_W_law_302 rfl (lv_at hl 0 rfl) ?_
        refine lv_iload_n hx hb d_W_law_303 rfl (lv_at hl 3 rfl) ?_
        refine lv_iconst (v := 1) hx hb d_W_law_304 (by decide) ?_
        refine lv_iadd hx hb d_W_law_305 ?_
        obtain ⟨hi_102, h⟩ := h
        refine va_sld hx hb hX hbl hbA hw.2.2 hi_102 d_W_law_306 ?_
        refine x_callVi C0 hw hl (MTi.frR (pre := (WM am ca M_clauses M_given M_end M_taped M_size M_at M_to M_sort M_worth M_faultKind M_faultPlace M_isTold M_nodes M_plain M_minus M_block M_left M_right M_pivot M_live M_needed M_label M_tape M_of M_kept M_had M_told M_first M_second M_node M_nodeVariable M_nodeLow M_nodeHigh M_wait)) (c_B_eliminate h)) g_B_eliminate wm_520 ⟨wm_522, wm_521⟩ 0 rfl rfl rfl (As := [.int (xs (x3 + (1 : Int32)).toNatClampNeg)]) (rest := []) rfl rfl (Nat.le_of_ble_eq_true rfl) ⟨rfl, rfl⟩ ⟨Nat.le_of_ble_eq_true rfl, Nat.le_of_ble_eq_true rfl⟩ ⟨Nat.le_of_ble_eq_true rfl, Nat.le_of_ble_eq_true rfl⟩ d_W_law_307 (fun r_116 u H locs h hw => ?_)
        obtain ⟨C_size_103, C_given_104, C_empty_105, C_drafted_106, C_draftedGiven_107, C_block_108, C_left_109, C_right_110, C_pivot_111, C_positive_112, C_negative_113, C_live_114, C_needed_115⟩ := u
        refine lv_aload_n hx hb d_W_law_310 rfl (lv_at hl 2 rfl) ?_
        refine lv_aload_n hx hb d_W_law_311 rfl (lv_at hl 0 rfl) ?_
        refine lv_iload_n hx hb d_W_law_312 rfl (lv_at hl 3 rfl) ?_
        refine lv_iconst (v := 1) hx hb d_W_law_313 (by decide) ?_
        refine lv_iadd hx hb d_W_law_314 ?_
        refine va_sld hx hb hX hbl hbA hw.2.2 hi_102 d_W_law_315 ?_
        refine x_callVi C0 hw hl (MTi.frL (pre := (WB ad ca T_length T_bytes C_size_103 C_given_104 C_empty_105 C_drafted_106 C_draftedGiven_107 C_block_108 C_left_109 C_right_110 C_pivot_111 C_positive_112 C_negative_113 C_live_114 C_needed_115 R_kind R_place R_at R_token R_tokenPlace R_number R_state R_block R_positive R_negative R_left R_right R_pivot L_of F_cut F_labelledA F_labelledB F_row A_root A_words A_known G_size G_variable G_low G_high G_numberOf G_nodeOf G_sides G_waiting B_table B_nextTable)) (c_M_eliminate h)) g_M_eliminate wm_898 ⟨wm_900, wm_899⟩ 30 rfl rfl rfl (As := [.int (xs (x3 + (1 : Int32)).toNatClampNeg)]) (rest := [.int r_116]) rfl rfl (Nat.le_of_ble_eq_true rfl) ⟨rfl, rfl⟩ ⟨Nat.le_of_ble_eq_true rfl, Nat.le_of_ble_eq_true rfl⟩ ⟨Nat.le_of_ble_eq_true rfl, Nat.le_of_ble_eq_true rfl⟩ d_W_law_316 (fun r_128 u H locs h hw => ?_)
        obtain ⟨M_clauses_117, M_given_118, M_end_119, M_plain_120, M_minus_121, M_block_122, M_left_123, M_right_124, M_pivot_125, M_live_126, M_needed_127⟩ := u
        refine lv_icmp_eq (tgt := 644) hx hb d_W_law_319 (by decide) (fun c_129 => ?_) (fun c_129 => ?_)
        · have h := h.1 c_129
          refine lv_iinc (v := (x3 + 6)) (lv' := [(3, .int (x3 + 6)), (0, .ref b), (1, .ref (ad 0)), (2, .ref (am 0))]) hx hb d_W_law_644 hl (k := 3) rfl rfl (by decide) rfl (fun ls hl => ?_)
          refine lv_goto (tgt := 18) hx hb d_W_law_647 (by decide) ?_
          exact ih _ _ _ _ _ _ _ _ _ _ _ _ _ _ _ _ _ _ _ _ _ _ _ _ _ _ _ _ _ _ _ _ _ _ _ _ _ _ _ _ _ _ _ _ _ _ _ _ _ _ _ _ _ _ _ _ _ _ _ _ _ _ _ _ _ _ _ _ _ _ _ _ _ _ _ _ _ _ _ _ _ h hw (lv_sub hl [1, 2, 3, 0] rfl)
        · have h := h.2 c_129
          refine lv_iconst (v := 0) hx hb d_W_law_322 (by decide) ?_
          exact h.elim
      by_cases c_130 : ((xs x3.toNatClampNeg) &&& (31 : Int32)) = (8 : Int32)
      · have h := h.2.2.2.2.2.2.2.2.1 c_130
        refine lv_tableIn (tgt := 324) (off := 291) hx hb d_W_law_33 (by rw [c_130]; decide) (by rw [c_130]; decide) (by rw [c_130]; rfl) (by decide) ?_
        refine lv_aload_n hx hb d_W_law_324 rfl (lv_at hl 1 rfl) ?_
        refine lv_aload_n hx hb d_W_law_325 rfl (lv_at hl 0 rfl) ?_
        refine lv_iload_n hx hb d_W_law_326 rfl (lv_at hl 3 rfl) ?_
        refine lv_iconst (v := 1) hx hb d_W_law_327 (by decide) ?_
        refine lv_iadd hx hb d_W_law_328 ?_
        obtain ⟨hi_131, h⟩ := h
        refine va_sld hx hb hX hbl hbA hw.2.2 hi_131 d_W_law_329 ?_
        refine lv_aload_n hx hb d_W_law_330 rfl (lv_at hl 0 rfl) ?_
        refine lv_iload_n hx hb d_W_law_331 rfl (lv_at hl 3 rfl) ?_
        refine lv_iconst (v := 2) hx hb d_W_law_332 (by decide) ?_
        refine lv_iadd hx hb d_W_law_333 ?_
        obtain ⟨hi_132, h⟩ := h
        refine va_sld hx hb hX hbl hbA hw.2.2 hi_132 d_W_law_334 ?_
        refine x_callVi C0 hw hl (MTi.frR (pre := (WM am ca M_clauses M_given M_end M_taped M_size M_at M_to M_sort M_worth M_faultKind M_faultPlace M_isTold M_nodes M_plain M_minus M_block M_left M_right M_pivot M_live M_needed M_label M_tape M_of M_kept M_had M_told M_first M_second M_node M_nodeVariable M_nodeLow M_nodeHigh M_wait)) (c_B_label h)) g_B_label wm_542 ⟨wm_544, wm_543⟩ 0 rfl rfl rfl (As := [.int (xs (x3 + (1 : Int32)).toNatClampNeg), .int (xs (x3 + (2 : Int32)).toNatClampNeg)]) (rest := []) rfl rfl (Nat.le_of_ble_eq_true rfl) ⟨rfl, rfl⟩ ⟨Nat.le_of_ble_eq_true rfl, Nat.le_of_ble_eq_true rfl⟩ ⟨Nat.le_of_ble_eq_true rfl, Nat.le_of_ble_eq_true rfl⟩ d_W_law_335 (fun r_134 u H locs h hw => ?_)
        obtain ⟨L_of_133, rfl⟩ : ∃ z, z = u := ⟨_, rfl⟩
        refine lv_aload_n hx hb d_W_law_338 rfl (lv_at hl 2 rfl) ?_
        refine lv_aload_n hx hb d_W_law_339 rfl (lv_at hl 0 rfl) ?_
        refine lv_iload_n hx hb d_W_law_340 rfl (lv_at hl 3 rfl) ?_
        refine lv_iconst (v := 1) hx hb d_W_law_341 (by decide) ?_
        refine lv_iadd hx hb d_W_law_342 ?_
        refine va_sld hx hb hX hbl hbA hw.2.2 hi_131 d_W_law_343 ?_
        refine lv_aload_n hx hb d_W_law_344 rfl (lv_at hl 0 rfl) ?_
        refine lv_iload_n hx hb d_W_law_345 rfl (lv_at hl 3 rfl) ?_
        refine lv_iconst (v := 2) hx hb d_W_law_346 (by decide) ?_
        refine lv_iadd hx hb d_W_law_347 ?_
        refine va_sld hx hb hX hbl hbA hw.2.2 hi_132 d_W_law_348 ?_
        refine x_callVi C0 hw hl (MTi.frL (pre := (WB ad ca T_length T_bytes C_size C_given C_empty C_drafted C_draftedGiven C_block C_left C_right C_pivot C_positive C_negative C_live C_needed R_kind R_place R_at R_token R_tokenPlace R_number R_state R_block R_positive R_negative R_left R_right R_pivot L_of_133 F_cut F_labelledA F_labelledB F_row A_root A_words A_known G_size G_variable G_low G_high G_numberOf G_nodeOf G_sides G_waiting B_table B_nextTable)) (c_M_label h)) g_M_label wm_906 ⟨wm_908, wm_907⟩ 30 rfl rfl rfl (As := [.int (xs (x3 + (1 : Int32)).toNatClampNeg), .int (xs (x3 + (2 : Int32)).toNatClampNeg)]) (rest := [.int r_134]) rfl rfl (Nat.le_of_ble_eq_true rfl) ⟨rfl, rfl⟩ ⟨Nat.le_of_ble_eq_true rfl, Nat.le_of_ble_eq_true rfl⟩ ⟨Nat.le_of_ble_eq_true rfl, Nat.le_of_ble_eq_true rfl⟩ d_W_law_349 (fun r_136 u H locs h hw => ?_)
        obtain ⟨M_label_135, rfl⟩ : ∃ z, z = u := ⟨_, rfl⟩
        refine lv_icmp_eq (tgt := 644) hx hb d_W_law_352 (by decide) (fun c_137 => ?_) (fun c_137 => ?_)
        · have h := h.1 c_137
          refine lv_iinc (v := (x3 + 6)) (lv' := [(3, .int (x3 + 6)), (0, .ref b), (1, .ref (ad 0)), (2, .ref (am 0))]) hx hb d_W_law_644 hl (k := 3) rfl rfl (by decide) rfl (fun ls hl => ?_)
          refine lv_goto (tgt := 18) hx hb d_W_law_647 (by decide) ?_
          exact ih _ _ _ _ _ _ _ _ _ _ _ _ _ _ _ _ _ _ _ _ _ _ _ _ _ _ _ _ _ _ _ _ _ _ _ _ _ _ _ _ _ _ _ _ _ _ _ _ _ _ _ _ _ _ _ _ _ _ _ _ _ _ _ _ _ _ _ _ _ _ _ _ _ _ _ _ _ _ _ _ _ h hw (lv_sub hl [1, 2, 3, 0] rfl)
        · have h := h.2 c_137
          refine lv_iconst (v := 0) hx hb d_W_law_355 (by decide) ?_
          exact h.elim
      by_cases c_138 : ((xs x3.toNatClampNeg) &&& (31 : Int32)) = (9 : Int32)
      · have h := h.2.2.2.2.2.2.2.2.2.1 c_138
        refine lv_tableIn (tgt := 357) (off := 324) hx hb d_W_law_33 (by rw [c_138]; decide) (by rw [c_138]; decide) (by rw [c_138]; rfl) (by decide) ?_
        refine lv_aload_n hx hb d_W_law_357 rfl (lv_at hl 1 rfl) ?_
        refine lv_aload_n hx hb d_W_law_358 rfl (lv_at hl 0 rfl) ?_
        refine lv_iload_n hx hb d_W_law_359 rfl (lv_at hl 3 rfl) ?_
        refine lv_iconst (v := 1) hx hb d_W_law_360 (by decide) ?_
        refine lv_iadd hx hb d_W_law_361 ?_
        obtain ⟨hi_139, h⟩ := h
        refine va_sld hx hb hX hbl hbA hw.2.2 hi_139 d_W_law_362 ?_
        refine lv_aload_n hx hb d_W_law_363 rfl (lv_at hl 0 rfl) ?_
        refine lv_iload_n hx hb d_W_law_364 rfl (lv_at hl 3 rfl) ?_
        refine lv_iconst (v := 2) hx hb d_W_law_365 (by decide) ?_
        refine lv_iadd hx hb d_W_law_366 ?_
        obtain ⟨hi_140, h⟩ := h
        refine va_sld hx hb hX hbl hbA hw.2.2 hi_140 d_W_law_367 ?_
        refine x_callVi C0 hw hl (MTi.frR (pre := (WM am ca M_clauses M_given M_end M_taped M_size M_at M_to M_sort M_worth M_faultKind M_faultPlace M_isTold M_nodes M_plain M_minus M_block M_left M_right M_pivot M_live M_needed M_label M_tape M_of M_kept M_had M_told M_first M_second M_node M_nodeVariable M_nodeLow M_nodeHigh M_wait)) (c_B_variables h)) g_B_variables wm_550 ⟨wm_552, wm_551⟩ 0 rfl rfl rfl (As := [.int (xs (x3 + (1 : Int32)).toNatClampNeg), .int (xs (x3 + (2 : Int32)).toNatClampNeg)]) (rest := []) rfl rfl (Nat.le_of_ble_eq_true rfl) ⟨rfl, rfl⟩ ⟨Nat.le_of_ble_eq_true rfl, Nat.le_of_ble_eq_true rfl⟩ ⟨Nat.le_of_ble_eq_true rfl, Nat.le_of_ble_eq_true rfl⟩ d_W_law_368 (fun r_141 u H locs h hw => ?_)
        refine lv_aload_n hx hb d_W_law_371 rfl (lv_at hl 2 rfl) ?_
        refine lv_aload_n hx hb d_W_law_372 rfl (lv_at hl 0 rfl) ?_
        refine lv_iload_n hx hb d_W_law_373 rfl (lv_at hl 3 rfl) ?_
        refine lv_iconst (v := 1) hx hb d_W_law_374 (by decide) ?_
        refine lv_iadd hx hb d_W_law_375 ?_
        refine va_sld hx hb hX hbl hbA hw.2.2 hi_139 d_W_law_376 ?_
        refine lv_aload_n hx hb d_W_law_377 rfl (lv_at hl 0 rfl) ?_
        refine lv_iload_n hx hb d_W_law_378 rfl (lv_at hl 3 rfl) ?_
        refine lv_iconst (v := 2) hx hb d_W_law_379 (by decide) ?_
        refine lv_iadd hx hb d_W_law_380 ?_
        refine va_sld hx hb hX hbl hbA hw.2.2 hi_140 d_W_law_381 ?_
        refine x_callVi C0 hw hl (MTi.frL (pre := (WB ad ca T_length T_bytes C_size C_given C_empty C_drafted C_draftedGiven C_block C_left C_right C_pivot C_positive C_negative C_live C_needed R_kind R_place R_at R_token R_tokenPlace R_number R_state R_block R_positive R_negative R_left R_right R_pivot L_of F_cut F_labelledA F_labelledB F_row A_root A_words A_known G_size G_variable G_low G_high G_numberOf G_nodeOf G_sides G_waiting B_table B_nextTable)) (c_M_variables h)) g_M_variables wm_910 ⟨wm_912, wm_911⟩ 30 rfl rfl rfl (As := [.int (xs (x3 + (1 : Int32)).toNatClampNeg), .int (xs (x3 + (2 : Int32)).toNatClampNeg)]) (rest := [.int r_141]) rfl rfl (Nat.le_of_ble_eq_true rfl) ⟨rfl, rfl⟩ ⟨Nat.le_of_ble_eq_true rfl, Nat.le_of_ble_eq_true rfl⟩ ⟨Nat.le_of_ble_eq_true rfl, Nat.le_of_ble_eq_true rfl⟩ d_W_law_382 (fun r_142 u H locs h hw => ?_)
        refine lv_icmp_eq (tgt := 644) hx hb d_W_law_385 (by decide) (fun c_143 => ?_) (fun c_143 => ?_)
        · have h := h.1 c_143
          refine lv_iinc (v := (x3 + 6)) (lv' := [(3, .int (x3 + 6)), (0, .ref b), (1, .ref (ad 0)), (2, .ref (am 0))]) hx hb d_W_law_644 hl (k := 3) rfl rfl (by decide) rfl (fun ls hl => ?_)
          refine lv_goto (tgt := 18) hx hb d_W_law_647 (by decide) ?_
          exact ih _ _ _ _ _ _ _ _ _ _ _ _ _ _ _ _ _ _ _ _ _ _ _ _ _ _ _ _ _ _ _ _ _ _ _ _ _ _ _ _ _ _ _ _ _ _ _ _ _ _ _ _ _ _ _ _ _ _ _ _ _ _ _ _ _ _ _ _ _ _ _ _ _ _ _ _ _ _ _ _ _ h hw (lv_sub hl [1, 2, 3, 0] rfl)
        · have h := h.2 c_143
          refine lv_iconst (v := 0) hx hb d_W_law_388 (by decide) ?_
          exact h.elim
      by_cases c_144 : ((xs x3.toNatClampNeg) &&& (31 : Int32)) = (10 : Int32)
      · have h := h.2.2.2.2.2.2.2.2.2.2.1 c_144
        refine lv_tableIn (tgt := 390) (off := 357) hx hb d_W_law_33 (by rw [c_144]; decide) (by rw [c_144]; decide) (by rw [c_144]; rfl) (by decide) ?_
        refine lv_aload_n hx hb d_W_law_390 rfl (lv_at hl 1 rfl) ?_
        refine lv_aload_n hx hb d_W_law_391 rfl (lv_at hl 0 rfl) ?_
        refine lv_iload_n hx hb d_W_law_392 rfl (lv_at hl 3 rfl) ?_
        refine lv_iconst (v := 1) hx hb d_W_law_393 (by decide) ?_
        refine lv_iadd hx hb d_W_law_394 ?_
        obtain ⟨hi_145, h⟩ := h
        refine va_sld hx hb hX hbl hbA hw.2.2 hi_145 d_W_law_395 ?_
        refine lv_aload_n hx hb d_W_law_396 rfl (lv_at hl 0 rfl) ?_
        refine lv_iload_n hx hb d_W_law_397 rfl (lv_at hl 3 rfl) ?_
        refine lv_iconst (v := 2) hx hb d_W_law_398 (by decide) ?_
        refine lv_iadd hx hb d_W_law_399 ?_
        obtain ⟨hi_146, h⟩ := h
        refine va_sld hx hb hX hbl hbA hw.2.2 hi_146 d_W_law_400 ?_
        refine x_callVi C0 hw hl (MTi.frR (pre := (WM am ca M_clauses M_given M_end M_taped M_size M_at M_to M_sort M_worth M_faultKind M_faultPlace M_isTold M_nodes M_plain M_minus M_block M_left M_right M_pivot M_live M_needed M_label M_tape M_of M_kept M_had M_told M_first M_second M_node M_nodeVariable M_nodeLow M_nodeHigh M_wait)) (c_B_interpolate h)) g_B_interpolate wm_565 ⟨wm_567, wm_566⟩ 0 rfl rfl rfl (As := [.int (xs (x3 + (1 : Int32)).toNatClampNeg), .int (xs (x3 + (2 : Int32)).toNatClampNeg)]) (rest := []) rfl rfl (Nat.le_of_ble_eq_true rfl) ⟨rfl, rfl⟩ ⟨Nat.le_of_ble_eq_true rfl, Nat.le_of_ble_eq_true rfl⟩ ⟨Nat.le_of_ble_eq_true rfl, Nat.le_of_ble_eq_true rfl⟩ d_W_law_401 (fun r_162 u H locs h hw => ?_)
        obtain ⟨F_cut_147, F_labelledA_148, F_labelledB_149, F_row_150, A_root_151, A_words_152, A_known_153, G_size_154, G_variable_155, G_low_156, G_high_157, G_numberOf_158, G_nodeOf_159, G_sides_160, G_waiting_161⟩ := u
        refine lv_aload_n hx hb d_W_law_404 rfl (lv_at hl 2 rfl) ?_
        refine lv_aload_n hx hb d_W_law_405 rfl (lv_at hl 0 rfl) ?_
        refine lv_iload_n hx hb d_W_law_406 rfl (lv_at hl 3 rfl) ?_
        refine lv_iconst (v := 1) hx hb d_W_law_407 (by decide) ?_
        refine lv_iadd hx hb d_W_law_408 ?_
        refine va_sld hx hb hX hbl hbA hw.2.2 hi_145 d_W_law_409 ?_
        refine lv_aload_n hx hb d_W_law_410 rfl (lv_at hl 0 rfl) ?_
        refine lv_iload_n hx hb d_W_law_411 rfl (lv_at hl 3 rfl) ?_
        refine lv_iconst (v := 2) hx hb d_W_law_412 (by decide) ?_
        refine lv_iadd hx hb d_W_law_413 ?_
        refine va_sld hx hb hX hbl hbA hw.2.2 hi_146 d_W_law_414 ?_
        refine x_callVi C0 hw hl (MTi.frL (pre := (WB ad ca T_length T_bytes C_size C_given C_empty C_drafted C_draftedGiven C_block C_left C_right C_pivot C_positive C_negative C_live C_needed R_kind R_place R_at R_token R_tokenPlace R_number R_state R_block R_positive R_negative R_left R_right R_pivot L_of F_cut_147 F_labelledA_148 F_labelledB_149 F_row_150 A_root_151 A_words_152 A_known_153 G_size_154 G_variable_155 G_low_156 G_high_157 G_numberOf_158 G_nodeOf_159 G_sides_160 G_waiting_161 B_table B_nextTable)) (c_M_interpolate h)) g_M_interpolate wm_918 ⟨wm_920, wm_919⟩ 30 rfl rfl rfl (As := [.int (xs (x3 + (1 : Int32)).toNatClampNeg), .int (xs (x3 + (2 : Int32)).toNatClampNeg)]) (rest := [.int r_162]) rfl rfl (Nat.le_of_ble_eq_true rfl) ⟨rfl, rfl⟩ ⟨Nat.le_of_ble_eq_true rfl, Nat.le_of_ble_eq_true rfl⟩ ⟨Nat.le_of_ble_eq_true rfl, Nat.le_of_ble_eq_true rfl⟩ d_W_law_415 (fun r_175 u H locs h hw => ?_)
        obtain ⟨M_isTold_163, M_nodes_164, M_of_165, M_kept_166, M_had_167, M_told_168, M_second_169, M_node_170, M_nodeVariable_171, M_nodeLow_172, M_nodeHigh_173, M_wait_174⟩ := u
        refine lv_icmp_eq (tgt := 644) hx hb d_W_law_418 (by decide) (fun c_176 => ?_) (fun c_176 => ?_)
        · have h := h.1 c_176
          refine lv_iinc (v := (x3 + 6)) (lv' := [(3, .int (x3 + 6)), (0, .ref b), (1, .ref (ad 0)), (2, .ref (am 0))]) hx hb d_W_law_644 hl (k := 3) rfl rfl (by decide) rfl (fun ls hl => ?_)
          refine lv_goto (tgt := 18) hx hb d_W_law_647 (by decide) ?_
          exact ih _ _ _ _ _ _ _ _ _ _ _ _ _ _ _ _ _ _ _ _ _ _ _ _ _ _ _ _ _ _ _ _ _ _ _ _ _ _ _ _ _ _ _ _ _ _ _ _ _ _ _ _ _ _ _ _ _ _ _ _ _ _ _ _ _ _ _ _ _ _ _ _ _ _ _ _ _ _ _ _ _ h hw (lv_sub hl [1, 2, 3, 0] rfl)
        · have h := h.2 c_176
          refine lv_iconst (v := 0) hx hb d_W_law_421 (by decide) ?_
          exact h.elim
      by_cases c_177 : ((xs x3.toNatClampNeg) &&& (31 : Int32)) = (11 : Int32)
      · have h := h.2.2.2.2.2.2.2.2.2.2.2.1 c_177
        refine lv_tableIn (tgt := 423) (off := 390) hx hb d_W_law_33 (by rw [c_177]; decide) (by rw [c_177]; decide) (by rw [c_177]; rfl) (by decide) ?_
        refine lv_aload_n hx hb d_W_law_423 rfl (lv_at hl 1 rfl) ?_
        refine lv_aload_n hx hb d_W_law_424 rfl (lv_at hl 0 rfl) ?_
        refine lv_iload_n hx hb d_W_law_425 rfl (lv_at hl 3 rfl) ?_
        refine lv_iconst (v := 1) hx hb d_W_law_426 (by decide) ?_
        refine lv_iadd hx hb d_W_law_427 ?_
        obtain ⟨hi_178, h⟩ := h
        refine va_sld hx hb hX hbl hbA hw.2.2 hi_178 d_W_law_428 ?_
        refine x_callVi C0 hw hl (MTi.frR (pre := (WM am ca M_clauses M_given M_end M_taped M_size M_at M_to M_sort M_worth M_faultKind M_faultPlace M_isTold M_nodes M_plain M_minus M_block M_left M_right M_pivot M_live M_needed M_label M_tape M_of M_kept M_had M_told M_first M_second M_node M_nodeVariable M_nodeLow M_nodeHigh M_wait)) (c_B_value h)) g_B_value wm_631 ⟨wm_633, wm_632⟩ 0 rfl rfl rfl (As := [.int (xs (x3 + (1 : Int32)).toNatClampNeg)]) (rest := []) rfl rfl (Nat.le_of_ble_eq_true rfl) ⟨rfl, rfl⟩ ⟨Nat.le_of_ble_eq_true rfl, Nat.le_of_ble_eq_true rfl⟩ ⟨Nat.le_of_ble_eq_true rfl, Nat.le_of_ble_eq_true rfl⟩ d_W_law_429 (fun r_179 u H locs h hw => ?_)
        refine lv_aload_n hx hb d_W_law_432 rfl (lv_at hl 2 rfl) ?_
        refine lv_aload_n hx hb d_W_law_433 rfl (lv_at hl 0 rfl) ?_
        refine lv_iload_n hx hb d_W_law_434 rfl (lv_at hl 3 rfl) ?_
        refine lv_iconst (v := 1) hx hb d_W_law_435 (by decide) ?_
        refine lv_iadd hx hb d_W_law_436 ?_
        refine va_sld hx hb hX hbl hbA hw.2.2 hi_178 d_W_law_437 ?_
        refine x_callVi C0 hw hl (MTi.frL (pre := (WB ad ca T_length T_bytes C_size C_given C_empty C_drafted C_draftedGiven C_block C_left C_right C_pivot C_positive C_negative C_live C_needed R_kind R_place R_at R_token R_tokenPlace R_number R_state R_block R_positive R_negative R_left R_right R_pivot L_of F_cut F_labelledA F_labelledB F_row A_root A_words A_known G_size G_variable G_low G_high G_numberOf G_nodeOf G_sides G_waiting B_table B_nextTable)) (c_M_value h)) g_M_value wm_960 ⟨wm_962, wm_961⟩ 30 rfl rfl rfl (As := [.int (xs (x3 + (1 : Int32)).toNatClampNeg)]) (rest := [.int r_179]) rfl rfl (Nat.le_of_ble_eq_true rfl) ⟨rfl, rfl⟩ ⟨Nat.le_of_ble_eq_true rfl, Nat.le_of_ble_eq_true rfl⟩ ⟨Nat.le_of_ble_eq_true rfl, Nat.le_of_ble_eq_true rfl⟩ d_W_law_438 (fun r_180 u H locs h hw => ?_)
        refine lv_icmp_eq (tgt := 644) hx hb d_W_law_441 (by decide) (fun c_181 => ?_) (fun c_181 => ?_)
        · have h := h.1 c_181
          refine lv_iinc (v := (x3 + 6)) (lv' := [(3, .int (x3 + 6)), (0, .ref b), (1, .ref (ad 0)), (2, .ref (am 0))]) hx hb d_W_law_644 hl (k := 3) rfl rfl (by decide) rfl (fun ls hl => ?_)
          refine lv_goto (tgt := 18) hx hb d_W_law_647 (by decide) ?_
          exact ih _ _ _ _ _ _ _ _ _ _ _ _ _ _ _ _ _ _ _ _ _ _ _ _ _ _ _ _ _ _ _ _ _ _ _ _ _ _ _ _ _ _ _ _ _ _ _ _ _ _ _ _ _ _ _ _ _ _ _ _ _ _ _ _ _ _ _ _ _ _ _ _ _ _ _ _ _ _ _ _ _ h hw (lv_sub hl [1, 2, 3, 0] rfl)
        · have h := h.2 c_181
          refine lv_iconst (v := 0) hx hb d_W_law_444 (by decide) ?_
          exact h.elim
      by_cases c_182 : ((xs x3.toNatClampNeg) &&& (31 : Int32)) = (12 : Int32)
      · have h := h.2.2.2.2.2.2.2.2.2.2.2.2.1 c_182
        refine lv_tableIn (tgt := 446) (off := 413) hx hb d_W_law_33 (by rw [c_182]; decide) (by rw [c_182]; decide) (by rw [c_182]; rfl) (by decide) ?_
        refine lv_aload_n hx hb d_W_law_446 rfl (lv_at hl 1 rfl) ?_
        refine lv_aload_n hx hb d_W_law_447 rfl (lv_at hl 0 rfl) ?_
        refine lv_iload_n hx hb d_W_law_448 rfl (lv_at hl 3 rfl) ?_
        refine lv_iconst (v := 1) hx hb d_W_law_449 (by decide) ?_
        refine lv_iadd hx hb d_W_law_450 ?_
        obtain ⟨hi_183, h⟩ := h
        refine va_sld hx hb hX hbl hbA hw.2.2 hi_183 d_W_law_451 ?_
        refine lv_aload_n hx hb d_W_law_452 rfl (lv_at hl 0 rfl) ?_
        refine lv_iload_n hx hb d_W_law_453 rfl (lv_at hl 3 rfl) ?_
        refine lv_iconst (v := 2) hx hb d_W_law_454 (by decide) ?_
        refine lv_iadd hx hb d_W_law_455 ?_
        obtain ⟨hi_184, h⟩ := h
        refine va_sld hx hb hX hbl hbA hw.2.2 hi_184 d_W_law_456 ?_
        refine x_callVi C0 hw hl (MTi.frR (pre := (WM am ca M_clauses M_given M_end M_taped M_size M_at M_to M_sort M_worth M_faultKind M_faultPlace M_isTold M_nodes M_plain M_minus M_block M_left M_right M_pivot M_live M_needed M_label M_tape M_of M_kept M_had M_told M_first M_second M_node M_nodeVariable M_nodeLow M_nodeHigh M_wait)) (c_B_prt h)) g_B_prt wm_640 ⟨wm_642, wm_641⟩ 0 rfl rfl rfl (As := [.int (xs (x3 + (1 : Int32)).toNatClampNeg), .int (xs (x3 + (2 : Int32)).toNatClampNeg)]) (rest := []) rfl rfl (Nat.le_of_ble_eq_true rfl) ⟨rfl, rfl⟩ ⟨Nat.le_of_ble_eq_true rfl, Nat.le_of_ble_eq_true rfl⟩ ⟨Nat.le_of_ble_eq_true rfl, Nat.le_of_ble_eq_true rfl⟩ d_W_law_457 (fun r_185 u H locs h hw => ?_)
        refine lv_aload_n hx hb d_W_law_460 rfl (lv_at hl 2 rfl) ?_
        refine lv_aload_n hx hb d_W_law_461 rfl (lv_at hl 0 rfl) ?_
        refine lv_iload_n hx hb d_W_law_462 rfl (lv_at hl 3 rfl) ?_
        refine lv_iconst (v := 1) hx hb d_W_law_463 (by decide) ?_
        refine lv_iadd hx hb d_W_law_464 ?_
        refine va_sld hx hb hX hbl hbA hw.2.2 hi_183 d_W_law_465 ?_
        refine lv_aload_n hx hb d_W_law_466 rfl (lv_at hl 0 rfl) ?_
        refine lv_iload_n hx hb d_W_law_467 rfl (lv_at hl 3 rfl) ?_
        refine lv_iconst (v := 2) hx hb d_W_law_468 (by decide) ?_
        refine lv_iadd hx hb d_W_law_469 ?_
        refine va_sld hx hb hX hbl hbA hw.2.2 hi_184 d_W_law_470 ?_
        refine x_callVi C0 hw hl (MTi.frL (pre := (WB ad ca T_length T_bytes C_size C_given C_empty C_drafted C_draftedGiven C_block C_left C_right C_pivot C_positive C_negative C_live C_needed R_kind R_place R_at R_token R_tokenPlace R_number R_state R_block R_positive R_negative R_left R_right R_pivot L_of F_cut F_labelledA F_labelledB F_row A_root A_words A_known G_size G_variable G_low G_high G_numberOf G_nodeOf G_sides G_waiting B_table B_nextTable)) (c_M_prt h)) g_M_prt wm_964 ⟨wm_966, wm_965⟩ 30 rfl rfl rfl (As := [.int (xs (x3 + (1 : Int32)).toNatClampNeg), .int (xs (x3 + (2 : Int32)).toNatClampNeg)]) (rest := [.int r_185]) rfl rfl (Nat.le_of_ble_eq_true rfl) ⟨rfl, rfl⟩ ⟨Nat.le_of_ble_eq_true rfl, Nat.le_of_ble_eq_true rfl⟩ ⟨Nat.le_of_ble_eq_true rfl, Nat.le_of_ble_eq_true rfl⟩ d_W_law_471 (fun r_186 u H locs h hw => ?_)
        refine lv_icmp_eq (tgt := 644) hx hb d_W_law_474 (by decide) (fun c_187 => ?_) (fun c_187 => ?_)
        · have h := h.1 c_187
          refine lv_iinc (v := (x3 + 6)) (lv' := [(3, .int (x3 + 6)), (0, .ref b), (1, .ref (ad 0)), (2, .ref (am 0))]) hx hb d_W_law_644 hl (k := 3) rfl rfl (by decide) rfl (fun ls hl => ?_)
          refine lv_goto (tgt := 18) hx hb d_W_law_647 (by decide) ?_
          exact ih _ _ _ _ _ _ _ _ _ _ _ _ _ _ _ _ _ _ _ _ _ _ _ _ _ _ _ _ _ _ _ _ _ _ _ _ _ _ _ _ _ _ _ _ _ _ _ _ _ _ _ _ _ _ _ _ _ _ _ _ _ _ _ _ _ _ _ _ _ _ _ _ _ _ _ _ _ _ _ _ _ h hw (lv_sub hl [1, 2, 3, 0] rfl)
        · have h := h.2 c_187
          refine lv_iconst (v := 0) hx hb d_W_law_477 (by decide) ?_
          exact h.elim
      by_cases c_188 : ((xs x3.toNatClampNeg) &&& (31 : Int32)) = (13 : Int32)
      · have h := h.2.2.2.2.2.2.2.2.2.2.2.2.2.1 c_188
        refine lv_tableIn (tgt := 479) (off := 446) hx hb d_W_law_33 (by rw [c_188]; decide) (by rw [c_188]; decide) (by rw [c_188]; rfl) (by decide) ?_
        refine lv_aload_n hx hb d_W_law_479 rfl (lv_at hl 1 rfl) ?_
        refine lv_aload_n hx hb d_W_law_480 rfl (lv_at hl 0 rfl) ?_
        refine lv_iload_n hx hb d_W_law_481 rfl (lv_at hl 3 rfl) ?_
        refine lv_iconst (v := 1) hx hb d_W_law_482 (by decide) ?_
        refine lv_iadd hx hb d_W_law_483 ?_
        obtain ⟨hi_189, h⟩ := h
        refine va_sld hx hb hX hbl hbA hw.2.2 hi_189 d_W_law_484 ?_
        refine x_callVi C0 hw hl (MTi.frR (pre := (WM am ca M_clauses M_given M_end M_taped M_size M_at M_to M_sort M_worth M_faultKind M_faultPlace M_isTold M_nodes M_plain M_minus M_block M_left M_right M_pivot M_live M_needed M_label M_tape M_of M_kept M_had M_told M_first M_second M_node M_nodeVariable M_nodeLow M_nodeHigh M_wait)) (c_B_told h)) g_B_told wm_644 ⟨wm_646, wm_645⟩ 0 rfl rfl rfl (As := [.int (xs (x3 + (1 : Int32)).toNatClampNeg)]) (rest := []) rfl rfl (Nat.le_of_ble_eq_true rfl) ⟨rfl, rfl⟩ ⟨Nat.le_of_ble_eq_true rfl, Nat.le_of_ble_eq_true rfl⟩ ⟨Nat.le_of_ble_eq_true rfl, Nat.le_of_ble_eq_true rfl⟩ d_W_law_485 (fun r_190 u H locs h hw => ?_)
        refine lv_aload_n hx hb d_W_law_488 rfl (lv_at hl 2 rfl) ?_
        refine lv_aload_n hx hb d_W_law_489 rfl (lv_at hl 0 rfl) ?_
        refine lv_iload_n hx hb d_W_law_490 rfl (lv_at hl 3 rfl) ?_
        refine lv_iconst (v := 1) hx hb d_W_law_491 (by decide) ?_
        refine lv_iadd hx hb d_W_law_492 ?_
        refine va_sld hx hb hX hbl hbA hw.2.2 hi_189 d_W_law_493 ?_
        refine x_callVi C0 hw hl (MTi.frL (pre := (WB ad ca T_length T_bytes C_size C_given C_empty C_drafted C_draftedGiven C_block C_left C_right C_pivot C_positive C_negative C_live C_needed R_kind R_place R_at R_token R_tokenPlace R_number R_state R_block R_positive R_negative R_left R_right R_pivot L_of F_cut F_labelledA F_labelledB F_row A_root A_words A_known G_size G_variable G_low G_high G_numberOf G_nodeOf G_sides G_waiting B_table B_nextTable)) (c_M_told h)) g_M_told wm_968 ⟨wm_970, wm_969⟩ 30 rfl rfl rfl (As := [.int (xs (x3 + (1 : Int32)).toNatClampNeg)]) (rest := [.int r_190]) rfl rfl (Nat.le_of_ble_eq_true rfl) ⟨rfl, rfl⟩ ⟨Nat.le_of_ble_eq_true rfl, Nat.le_of_ble_eq_true rfl⟩ ⟨Nat.le_of_ble_eq_true rfl, Nat.le_of_ble_eq_true rfl⟩ d_W_law_494 (fun r_191 u H locs h hw => ?_)
        refine lv_icmp_eq (tgt := 644) hx hb d_W_law_497 (by decide) (fun c_192 => ?_) (fun c_192 => ?_)
        · have h := h.1 c_192
          refine lv_iinc (v := (x3 + 6)) (lv' := [(3, .int (x3 + 6)), (0, .ref b), (1, .ref (ad 0)), (2, .ref (am 0))]) hx hb d_W_law_644 hl (k := 3) rfl rfl (by decide) rfl (fun ls hl => ?_)
          refine lv_goto (tgt := 18) hx hb d_W_law_647 (by decide) ?_
          exact ih _ _ _ _ _ _ _ _ _ _ _ _ _ _ _ _ _ _ _ _ _ _ _ _ _ _ _ _ _ _ _ _ _ _ _ _ _ _ _ _ _ _ _ _ _ _ _ _ _ _ _ _ _ _ _ _ _ _ _ _ _ _ _ _ _ _ _ _ _ _ _ _ _ _ _ _ _ _ _ _ _ h hw (lv_sub hl [1, 2, 3, 0] rfl)
        · have h := h.2 c_192
          refine lv_iconst (v := 0) hx hb d_W_law_500 (by decide) ?_
          exact h.elim
      by_cases c_193 : ((xs x3.toNatClampNeg) &&& (31 : Int32)) = (14 : Int32)
      · have h := h.2.2.2.2.2.2.2.2.2.2.2.2.2.2.1 c_193
        refine lv_tableIn (tgt := 502) (off := 469) hx hb d_W_law_33 (by rw [c_193]; decide) (by rw [c_193]; decide) (by rw [c_193]; rfl) (by decide) ?_
        refine lv_aload_n hx hb d_W_law_502 rfl (lv_at hl 1 rfl) ?_
        refine lv_aload_n hx hb d_W_law_503 rfl (lv_at hl 0 rfl) ?_
        refine lv_iload_n hx hb d_W_law_504 rfl (lv_at hl 3 rfl) ?_
        refine lv_iconst (v := 1) hx hb d_W_law_505 (by decide) ?_
        refine lv_iadd hx hb d_W_law_506 ?_
        obtain ⟨hi_194, h⟩ := h
        refine va_sld hx hb hX hbl hbA hw.2.2 hi_194 d_W_law_507 ?_
        refine lv_aload_n hx hb d_W_law_508 rfl (lv_at hl 0 rfl) ?_
        refine lv_iload_n hx hb d_W_law_509 rfl (lv_at hl 3 rfl) ?_
        refine lv_iconst (v := 2) hx hb d_W_law_510 (by decide) ?_
        refine lv_iadd hx hb d_W_law_511 ?_
        obtain ⟨hi_195, h⟩ := h
        refine va_sld hx hb hX hbl hbA hw.2.2 hi_195 d_W_law_512 ?_
        refine x_callVi C0 hw hl (MTi.frR (pre := (WM am ca M_clauses M_given M_end M_taped M_size M_at M_to M_sort M_worth M_faultKind M_faultPlace M_isTold M_nodes M_plain M_minus M_block M_left M_right M_pivot M_live M_needed M_label M_tape M_of M_kept M_had M_told M_first M_second M_node M_nodeVariable M_nodeLow M_nodeHigh M_wait)) (c_B_graph h)) g_B_graph wm_662 ⟨wm_664, wm_663⟩ 0 rfl rfl rfl (As := [.int (xs (x3 + (1 : Int32)).toNatClampNeg), .int (xs (x3 + (2 : Int32)).toNatClampNeg)]) (rest := []) rfl rfl (Nat.le_of_ble_eq_true rfl) ⟨rfl, rfl⟩ ⟨Nat.le_of_ble_eq_true rfl, Nat.le_of_ble_eq_true rfl⟩ ⟨Nat.le_of_ble_eq_true rfl, Nat.le_of_ble_eq_true rfl⟩ d_W_law_513 (fun r_196 u H locs h hw => ?_)
        refine lv_aload_n hx hb d_W_law_516 rfl (lv_at hl 2 rfl) ?_
        refine lv_aload_n hx hb d_W_law_517 rfl (lv_at hl 0 rfl) ?_
        refine lv_iload_n hx hb d_W_law_518 rfl (lv_at hl 3 rfl) ?_
        refine lv_iconst (v := 1) hx hb d_W_law_519 (by decide) ?_
        refine lv_iadd hx hb d_W_law_520 ?_
        refine va_sld hx hb hX hbl hbA hw.2.2 hi_194 d_W_law_521 ?_
        refine lv_aload_n hx hb d_W_law_522 rfl (lv_at hl 0 rfl) ?_
        refine lv_iload_n hx hb d_W_law_523 rfl (lv_at hl 3 rfl) ?_
        refine lv_iconst (v := 2) hx hb d_W_law_524 (by decide) ?_
        refine lv_iadd hx hb d_W_law_525 ?_
        refine va_sld hx hb hX hbl hbA hw.2.2 hi_195 d_W_law_526 ?_
        refine x_callVi C0 hw hl (MTi.frL (pre := (WB ad ca T_length T_bytes C_size C_given C_empty C_drafted C_draftedGiven C_block C_left C_right C_pivot C_positive C_negative C_live C_needed R_kind R_place R_at R_token R_tokenPlace R_number R_state R_block R_positive R_negative R_left R_right R_pivot L_of F_cut F_labelledA F_labelledB F_row A_root A_words A_known G_size G_variable G_low G_high G_numberOf G_nodeOf G_sides G_waiting B_table B_nextTable)) (c_M_graph h)) g_M_graph wm_975 ⟨wm_977, wm_976⟩ 30 rfl rfl rfl (As := [.int (xs (x3 + (1 : Int32)).toNatClampNeg), .int (xs (x3 + (2 : Int32)).toNatClampNeg)]) (rest := [.int r_196]) rfl rfl (Nat.le_of_ble_eq_true rfl) ⟨rfl, rfl⟩ ⟨Nat.le_of_ble_eq_true rfl, Nat.le_of_ble_eq_true rfl⟩ ⟨Nat.le_of_ble_eq_true rfl, Nat.le_of_ble_eq_true rfl⟩ d_W_law_527 (fun r_197 u H locs h hw => ?_)
        refine lv_icmp_eq (tgt := 644) hx hb d_W_law_530 (by decide) (fun c_198 => ?_) (fun c_198 => ?_)
        · have h := h.1 c_198
          refine lv_iinc (v := (x3 + 6)) (lv' := [(3, .int (x3 + 6)), (0, .ref b), (1, .ref (ad 0)), (2, .ref (am 0))]) hx hb d_W_law_644 hl (k := 3) rfl rfl (by decide) rfl (fun ls hl => ?_)
          refine lv_goto (tgt := 18) hx hb d_W_law_647 (by decide) ?_
          exact ih _ _ _ _ _ _ _ _ _ _ _ _ _ _ _ _ _ _ _ _ _ _ _ _ _ _ _ _ _ _ _ _ _ _ _ _ _ _ _ _ _ _ _ _ _ _ _ _ _ _ _ _ _ _ _ _ _ _ _ _ _ _ _ _ _ _ _ _ _ _ _ _ _ _ _ _ _ _ _ _ _ h hw (lv_sub hl [1, 2, 3, 0] rfl)
        · have h := h.2 c_198
          refine lv_iconst (v := 0) hx hb d_W_law_533 (by decide) ?_
          exact h.elim
      by_cases c_199 : ((xs x3.toNatClampNeg) &&& (31 : Int32)) = (15 : Int32)
      · have h := h.2.2.2.2.2.2.2.2.2.2.2.2.2.2.2.1 c_199
        refine lv_tableIn (tgt := 535) (off := 502) hx hb d_W_law_33 (by rw [c_199]; decide) (by rw [c_199]; decide) (by rw [c_199]; rfl) (by decide) ?_
        refine lv_aload_n hx hb d_W_law_535 rfl (lv_at hl 1 rfl) ?_
        refine lv_aload_n hx hb d_W_law_536 rfl (lv_at hl 0 rfl) ?_
        refine lv_iload_n hx hb d_W_law_537 rfl (lv_at hl 3 rfl) ?_
        refine lv_iconst (v := 1) hx hb d_W_law_538 (by decide) ?_
        refine lv_iadd hx hb d_W_law_539 ?_
        obtain ⟨hi_200, h⟩ := h
        refine va_sld hx hb hX hbl hbA hw.2.2 hi_200 d_W_law_540 ?_
        refine lv_aload_n hx hb d_W_law_541 rfl (lv_at hl 0 rfl) ?_
        refine lv_iload_n hx hb d_W_law_542 rfl (lv_at hl 3 rfl) ?_
        refine lv_iconst (v := 2) hx hb d_W_law_543 (by decide) ?_
        refine lv_iadd hx hb d_W_law_544 ?_
        obtain ⟨hi_201, h⟩ := h
        refine va_sld hx hb hX hbl hbA hw.2.2 hi_201 d_W_law_545 ?_
        refine lv_aload_n hx hb d_W_law_546 rfl (lv_at hl 0 rfl) ?_
        refine lv_iload_n hx hb d_W_law_547 rfl (lv_at hl 3 rfl) ?_
        refine lv_iconst (v := 3) hx hb d_W_law_548 (by decide) ?_
        refine lv_iadd hx hb d_W_law_549 ?_
        obtain ⟨hi_202, h⟩ := h
        refine va_sld hx hb hX hbl hbA hw.2.2 hi_202 d_W_law_550 ?_
        refine x_callVi C0 hw hl (MTi.frR (pre := (WM am ca M_clauses M_given M_end M_taped M_size M_at M_to M_sort M_worth M_faultKind M_faultPlace M_isTold M_nodes M_plain M_minus M_block M_left M_right M_pivot M_live M_needed M_label M_tape M_of M_kept M_had M_told M_first M_second M_node M_nodeVariable M_nodeLow M_nodeHigh M_wait)) (c_B_follows h)) g_B_follows wm_674 ⟨wm_676, wm_675⟩ 0 rfl rfl rfl (As := [.int (xs (x3 + (1 : Int32)).toNatClampNeg), .int (xs (x3 + (2 : Int32)).toNatClampNeg), .int (xs (x3 + (3 : Int32)).toNatClampNeg)]) (rest := []) rfl rfl (Nat.le_of_ble_eq_true rfl) ⟨rfl, rfl⟩ ⟨Nat.le_of_ble_eq_true rfl, Nat.le_of_ble_eq_true rfl⟩ ⟨Nat.le_of_ble_eq_true rfl, Nat.le_of_ble_eq_true rfl⟩ d_W_law_551 (fun r_209 u H locs h hw => ?_)
        obtain ⟨F_cut_203, F_labelledA_204, F_labelledB_205, F_row_206, B_table_207, B_nextTable_208⟩ := u
        refine lv_aload_n hx hb d_W_law_554 rfl (lv_at hl 2 rfl) ?_
        refine lv_aload_n hx hb d_W_law_555 rfl (lv_at hl 0 rfl) ?_
        refine lv_iload_n hx hb d_W_law_556 rfl (lv_at hl 3 rfl) ?_
        refine lv_iconst (v := 1) hx hb d_W_law_557 (by decide) ?_
        refine lv_iadd hx hb d_W_law_558 ?_
        refine va_sld hx hb hX hbl hbA hw.2.2 hi_200 d_W_law_559 ?_
        refine lv_aload_n hx hb d_W_law_560 rfl (lv_at hl 0 rfl) ?_
        refine lv_iload_n hx hb d_W_law_561 rfl (lv_at hl 3 rfl) ?_
        refine lv_iconst (v := 2) hx hb d_W_law_562 (by decide) ?_
        refine lv_iadd hx hb d_W_law_563 ?_
        refine va_sld hx hb hX hbl hbA hw.2.2 hi_201 d_W_law_564 ?_
        refine lv_aload_n hx hb d_W_law_565 rfl (lv_at hl 0 rfl) ?_
        refine lv_iload_n hx hb d_W_law_566 rfl (lv_at hl 3 rfl) ?_
        refine lv_iconst (v := 3) hx hb d_W_law_567 (by decide) ?_
        refine lv_iadd hx hb d_W_law_568 ?_
        refine va_sld hx hb hX hbl hbA hw.2.2 hi_202 d_W_law_569 ?_
        refine x_callVi C0 hw hl (MTi.frL (pre := (WB ad ca T_length T_bytes C_size C_given C_empty C_drafted C_draftedGiven C_block C_left C_right C_pivot C_positive C_negative C_live C_needed R_kind R_place R_at R_token R_tokenPlace R_number R_state R_block R_positive R_negative R_left R_right R_pivot L_of F_cut_203 F_labelledA_204 F_labelledB_205 F_row_206 A_root A_words A_known G_size G_variable G_low G_high G_numberOf G_nodeOf G_sides G_waiting B_table_207 B_nextTable_208)) (c_M_follows h)) g_M_follows wm_979 ⟨wm_981, wm_980⟩ 30 rfl rfl rfl (As := [.int (xs (x3 + (1 : Int32)).toNatClampNeg), .int (xs (x3 + (2 : Int32)).toNatClampNeg), .int (xs (x3 + (3 : Int32)).toNatClampNeg)]) (rest := [.int r_209]) rfl rfl (Nat.le_of_ble_eq_true rfl) ⟨rfl, rfl⟩ ⟨Nat.le_of_ble_eq_true rfl, Nat.le_of_ble_eq_true rfl⟩ ⟨Nat.le_of_ble_eq_true rfl, Nat.le_of_ble_eq_true rfl⟩ d_W_law_570 (fun r_212 u H locs h hw => ?_)
        obtain ⟨M_of_210, M_first_211⟩ := u
        refine lv_icmp_eq (tgt := 644) hx hb d_W_law_573 (by decide) (fun c_213 => ?_) (fun c_213 => ?_)
        · have h := h.1 c_213
          refine lv_iinc (v := (x3 + 6)) (lv' := [(3, .int (x3 + 6)), (0, .ref b), (1, .ref (ad 0)), (2, .ref (am 0))]) hx hb d_W_law_644 hl (k := 3) rfl rfl (by decide) rfl (fun ls hl => ?_)
          refine lv_goto (tgt := 18) hx hb d_W_law_647 (by decide) ?_
          exact ih _ _ _ _ _ _ _ _ _ _ _ _ _ _ _ _ _ _ _ _ _ _ _ _ _ _ _ _ _ _ _ _ _ _ _ _ _ _ _ _ _ _ _ _ _ _ _ _ _ _ _ _ _ _ _ _ _ _ _ _ _ _ _ _ _ _ _ _ _ _ _ _ _ _ _ _ _ _ _ _ _ h hw (lv_sub hl [1, 2, 3, 0] rfl)
        · have h := h.2 c_213
          refine lv_iconst (v := 0) hx hb d_W_law_576 (by decide) ?_
          exact h.elim
      by_cases c_214 : ((xs x3.toNatClampNeg) &&& (31 : Int32)) = (16 : Int32)
      · have h := h.2.2.2.2.2.2.2.2.2.2.2.2.2.2.2.2.1 c_214
        refine lv_tableIn (tgt := 578) (off := 545) hx hb d_W_law_33 (by rw [c_214]; decide) (by rw [c_214]; decide) (by rw [c_214]; rfl) (by decide) ?_
        refine lv_aload_n hx hb d_W_law_578 rfl (lv_at hl 1 rfl) ?_
        refine lv_aload_n hx hb d_W_law_579 rfl (lv_at hl 0 rfl) ?_
        refine lv_iload_n hx hb d_W_law_580 rfl (lv_at hl 3 rfl) ?_
        refine lv_iconst (v := 1) hx hb d_W_law_581 (by decide) ?_
        refine lv_iadd hx hb d_W_law_582 ?_
        obtain ⟨hi_215, h⟩ := h
        refine va_sld hx hb hX hbl hbA hw.2.2 hi_215 d_W_law_583 ?_
        refine lv_aload_n hx hb d_W_law_584 rfl (lv_at hl 0 rfl) ?_
        refine lv_iload_n hx hb d_W_law_585 rfl (lv_at hl 3 rfl) ?_
        refine lv_iconst (v := 2) hx hb d_W_law_586 (by decide) ?_
        refine lv_iadd hx hb d_W_law_587 ?_
        obtain ⟨hi_216, h⟩ := h
        refine va_sld hx hb hX hbl hbA hw.2.2 hi_216 d_W_law_588 ?_
        refine lv_aload_n hx hb d_W_law_589 rfl (lv_at hl 0 rfl) ?_
        refine lv_iload_n hx hb d_W_law_590 rfl (lv_at hl 3 rfl) ?_
        refine lv_iconst (v := 3) hx hb d_W_law_591 (by decide) ?_
        refine lv_iadd hx hb d_W_law_592 ?_
        obtain ⟨hi_217, h⟩ := h
        refine va_sld hx hb hX hbl hbA hw.2.2 hi_217 d_W_law_593 ?_
        refine x_callVi C0 hw hl (MTi.frR (pre := (WM am ca M_clauses M_given M_end M_taped M_size M_at M_to M_sort M_worth M_faultKind M_faultPlace M_isTold M_nodes M_plain M_minus M_block M_left M_right M_pivot M_live M_needed M_label M_tape M_of M_kept M_had M_told M_first M_second M_node M_nodeVariable M_nodeLow M_nodeHigh M_wait)) (c_B_gap h)) g_B_gap wm_685 ⟨wm_687, wm_686⟩ 0 rfl rfl rfl (As := [.int (xs (x3 + (1 : Int32)).toNatClampNeg), .int (xs (x3 + (2 : Int32)).toNatClampNeg), .int (xs (x3 + (3 : Int32)).toNatClampNeg)]) (rest := []) rfl rfl (Nat.le_of_ble_eq_true rfl) ⟨rfl, rfl⟩ ⟨Nat.le_of_ble_eq_true rfl, Nat.le_of_ble_eq_true rfl⟩ ⟨Nat.le_of_ble_eq_true rfl, Nat.le_of_ble_eq_true rfl⟩ d_W_law_594 (fun r_224 u H locs h hw => ?_)
        obtain ⟨F_cut_218, F_labelledA_219, F_labelledB_220, F_row_221, B_table_222, B_nextTable_223⟩ := u
        refine lv_aload_n hx hb d_W_law_597 rfl (lv_at hl 2 rfl) ?_
        refine lv_aload_n hx hb d_W_law_598 rfl (lv_at hl 0 rfl) ?_
        refine lv_iload_n hx hb d_W_law_599 rfl (lv_at hl 3 rfl) ?_
        refine lv_iconst (v := 1) hx hb d_W_law_600 (by decide) ?_
        refine lv_iadd hx hb d_W_law_601 ?_
        refine va_sld hx hb hX hbl hbA hw.2.2 hi_215 d_W_law_602 ?_
        refine lv_aload_n hx hb d_W_law_603 rfl (lv_at hl 0 rfl) ?_
        refine lv_iload_n hx hb d_W_law_604 rfl (lv_at hl 3 rfl) ?_
        refine lv_iconst (v := 2) hx hb d_W_law_605 (by decide) ?_
        refine lv_iadd hx hb d_W_law_606 ?_
        refine va_sld hx hb hX hbl hbA hw.2.2 hi_216 d_W_law_607 ?_
        refine lv_aload_n hx hb d_W_law_608 rfl (lv_at hl 0 rfl) ?_
        refine lv_iload_n hx hb d_W_law_609 rfl (lv_at hl 3 rfl) ?_
        refine lv_iconst (v := 3) hx hb d_W_law_610 (by decide) ?_
        refine lv_iadd hx hb d_W_law_611 ?_
        refine va_sld hx hb hX hbl hbA hw.2.2 hi_217 d_W_law_612 ?_
        refine x_callVi C0 hw hl (MTi.frL (pre := (WB ad ca T_length T_bytes C_size C_given C_empty C_drafted C_draftedGiven C_block C_left C_right C_pivot C_positive C_negative C_live C_needed R_kind R_place R_at R_token R_tokenPlace R_number R_state R_block R_positive R_negative R_left R_right R_pivot L_of F_cut_218 F_labelledA_219 F_labelledB_220 F_row_221 A_root A_words A_known G_size G_variable G_low G_high G_numberOf G_nodeOf G_sides G_waiting B_table_222 B_nextTable_223)) (c_M_gap h)) g_M_gap wm_983 ⟨wm_985, wm_984⟩ 30 rfl rfl rfl (As := [.int (xs (x3 + (1 : Int32)).toNatClampNeg), .int (xs (x3 + (2 : Int32)).toNatClampNeg), .int (xs (x3 + (3 : Int32)).toNatClampNeg)]) (rest := [.int r_224]) rfl rfl (Nat.le_of_ble_eq_true rfl) ⟨rfl, rfl⟩ ⟨Nat.le_of_ble_eq_true rfl, Nat.le_of_ble_eq_true rfl⟩ ⟨Nat.le_of_ble_eq_true rfl, Nat.le_of_ble_eq_true rfl⟩ d_W_law_613 (fun r_227 u H locs h hw => ?_)
        obtain ⟨M_of_225, M_second_226⟩ := u
        refine lv_icmp_eq (tgt := 644) hx hb d_W_law_616 (by decide) (fun c_228 => ?_) (fun c_228 => ?_)
        · have h := h.1 c_228
          refine lv_iinc (v := (x3 + 6)) (lv' := [(3, .int (x3 + 6)), (0, .ref b), (1, .ref (ad 0)), (2, .ref (am 0))]) hx hb d_W_law_644 hl (k := 3) rfl rfl (by decide) rfl (fun ls hl => ?_)
          refine lv_goto (tgt := 18) hx hb d_W_law_647 (by decide) ?_
          exact ih _ _ _ _ _ _ _ _ _ _ _ _ _ _ _ _ _ _ _ _ _ _ _ _ _ _ _ _ _ _ _ _ _ _ _ _ _ _ _ _ _ _ _ _ _ _ _ _ _ _ _ _ _ _ _ _ _ _ _ _ _ _ _ _ _ _ _ _ _ _ _ _ _ _ _ _ _ _ _ _ _ h hw (lv_sub hl [1, 2, 3, 0] rfl)
        · have h := h.2 c_228
          refine lv_iconst (v := 0) hx hb d_W_law_619 (by decide) ?_
          exact h.elim
      by_cases c_229 : ((xs x3.toNatClampNeg) &&& (31 : Int32)) = (17 : Int32)
      · have h := h.2.2.2.2.2.2.2.2.2.2.2.2.2.2.2.2.2.1 c_229
        refine lv_tableIn (tgt := 621) (off := 588) hx hb d_W_law_33 (by rw [c_229]; decide) (by rw [c_229]; decide) (by rw [c_229]; rfl) (by decide) ?_
        refine lv_aload_n hx hb d_W_law_621 rfl (lv_at hl 1 rfl) ?_
        refine lv_aload_n hx hb d_W_law_622 rfl (lv_at hl 0 rfl) ?_
        refine lv_iload_n hx hb d_W_law_623 rfl (lv_at hl 3 rfl) ?_
        refine lv_iconst (v := 1) hx hb d_W_law_624 (by decide) ?_
        refine lv_iadd hx hb d_W_law_625 ?_
        obtain ⟨hi_230, h⟩ := h
        refine va_sld hx hb hX hbl hbA hw.2.2 hi_230 d_W_law_626 ?_
        refine x_callVi C0 hw hl (MTi.frR (pre := (WM am ca M_clauses M_given M_end M_taped M_size M_at M_to M_sort M_worth M_faultKind M_faultPlace M_isTold M_nodes M_plain M_minus M_block M_left M_right M_pivot M_live M_needed M_label M_tape M_of M_kept M_had M_told M_first M_second M_node M_nodeVariable M_nodeLow M_nodeHigh M_wait)) (c_B_count h)) g_B_count wm_707 ⟨wm_709, wm_708⟩ 0 rfl rfl rfl (As := [.int (xs (x3 + (1 : Int32)).toNatClampNeg)]) (rest := []) rfl rfl (Nat.le_of_ble_eq_true rfl) ⟨rfl, rfl⟩ ⟨Nat.le_of_ble_eq_true rfl, Nat.le_of_ble_eq_true rfl⟩ ⟨Nat.le_of_ble_eq_true rfl, Nat.le_of_ble_eq_true rfl⟩ d_W_law_627 (fun r_231 u H locs h hw => ?_)
        refine lv_aload_n hx hb d_W_law_630 rfl (lv_at hl 2 rfl) ?_
        refine lv_aload_n hx hb d_W_law_631 rfl (lv_at hl 0 rfl) ?_
        refine lv_iload_n hx hb d_W_law_632 rfl (lv_at hl 3 rfl) ?_
        refine lv_iconst (v := 1) hx hb d_W_law_633 (by decide) ?_
        refine lv_iadd hx hb d_W_law_634 ?_
        refine va_sld hx hb hX hbl hbA hw.2.2 hi_230 d_W_law_635 ?_
        refine x_callVi C0 hw hl (MTi.frL (pre := (WB ad ca T_length T_bytes C_size C_given C_empty C_drafted C_draftedGiven C_block C_left C_right C_pivot C_positive C_negative C_live C_needed R_kind R_place R_at R_token R_tokenPlace R_number R_state R_block R_positive R_negative R_left R_right R_pivot L_of F_cut F_labelledA F_labelledB F_row A_root A_words A_known G_size G_variable G_low G_high G_numberOf G_nodeOf G_sides G_waiting B_table B_nextTable)) (c_M_count h)) g_M_count wm_991 ⟨wm_993, wm_992⟩ 30 rfl rfl rfl (As := [.int (xs (x3 + (1 : Int32)).toNatClampNeg)]) (rest := [.int r_231]) rfl rfl (Nat.le_of_ble_eq_true rfl) ⟨rfl, rfl⟩ ⟨Nat.le_of_ble_eq_true rfl, Nat.le_of_ble_eq_true rfl⟩ ⟨Nat.le_of_ble_eq_true rfl, Nat.le_of_ble_eq_true rfl⟩ d_W_law_636 (fun r_232 u H locs h hw => ?_)
        refine lv_icmp_eq (tgt := 644) hx hb d_W_law_639 (by decide) (fun c_233 => ?_) (fun c_233 => ?_)
        · have h := h.1 c_233
          refine lv_iinc (v := (x3 + 6)) (lv' := [(3, .int (x3 + 6)), (0, .ref b), (1, .ref (ad 0)), (2, .ref (am 0))]) hx hb d_W_law_644 hl (k := 3) rfl rfl (by decide) rfl (fun ls hl => ?_)
          refine lv_goto (tgt := 18) hx hb d_W_law_647 (by decide) ?_
          exact ih _ _ _ _ _ _ _ _ _ _ _ _ _ _ _ _ _ _ _ _ _ _ _ _ _ _ _ _ _ _ _ _ _ _ _ _ _ _ _ _ _ _ _ _ _ _ _ _ _ _ _ _ _ _ _ _ _ _ _ _ _ _ _ _ _ _ _ _ _ _ _ _ _ _ _ _ _ _ _ _ _ h hw (lv_sub hl [1, 2, 3, 0] rfl)
        · have h := h.2 c_233
          refine lv_iconst (v := 0) hx hb d_W_law_642 (by decide) ?_
          exact h.elim
      have h := h.2.2.2.2.2.2.2.2.2.2.2.2.2.2.2.2.2.2 c_3 c_16 c_23 c_73 c_78 c_91 c_97 c_101 c_130 c_138 c_144 c_177 c_182 c_188 c_193 c_199 c_214 c_229
      refine lv_tableOut (tgt := 644) hx hb d_W_law_33 (by have q0 := lv_neT c_3 (a := 0) rfl; have q1 := lv_neT c_16 (a := 1) rfl; have q2 := lv_neT c_23 (a := 2) rfl; have q3 := lv_neT c_73 (a := 3) rfl; have q4 := lv_neT c_78 (a := 4) rfl; have q5 := lv_neT c_91 (a := 5) rfl; have q6 := lv_neT c_97 (a := 6) rfl; have q7 := lv_neT c_101 (a := 7) rfl; have q8 := lv_neT c_130 (a := 8) rfl; have q9 := lv_neT c_138 (a := 9) rfl; have q10 := lv_neT c_144 (a := 10) rfl; have q11 := lv_neT c_177 (a := 11) rfl; have q12 := lv_neT c_182 (a := 12) rfl; have q13 := lv_neT c_188 (a := 13) rfl; have q14 := lv_neT c_193 (a := 14) rfl; have q15 := lv_neT c_199 (a := 15) rfl; have q16 := lv_neT c_214 (a := 16) rfl; have q17 := lv_neT c_229 (a := 17) rfl; omega) (by decide) ?_
      refine lv_iinc (v := (x3 + 6)) (lv' := [(3, .int (x3 + 6)), (0, .ref b), (1, .ref (ad 0)), (2, .ref (am 0))]) hx hb d_W_law_644 hl (k := 3) rfl rfl (by decide) rfl (fun ls hl => ?_)
      refine lv_goto (tgt := 18) hx hb d_W_law_647 (by decide) ?_
      exact ih _ _ _ _ _ _ _ _ _ _ _ _ _ _ _ _ _ _ _ _ _ _ _ _ _ _ _ _ _ _ _ _ _ _ _ _ _ _ _ _ _ _ _ _ _ _ _ _ _ _ _ _ _ _ _ _ _ _ _ _ _ _ _ _ _ _ _ _ _ _ _ _ _ _ _ _ _ _ _ _ _ h hw (lv_sub hl [1, 2, 3, 0] rfl)

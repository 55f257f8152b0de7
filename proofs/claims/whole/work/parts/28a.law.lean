/-! PURE: the whole run -/
theorem RT.zero {tb mb : FF} : RT 0 tb 0 mb := ⟨0, by omega, rfl, rfl, fun j hj => absurd hj (Nat.not_lt_zero j)⟩
theorem s_refut2 {csz cgv cem mcl mgv mend : Int32} {cb cl cr cv cp cn cx cD mb ml mr mv mp mn mx mD : FF} {K : Int32 → Int32 → Prop} (hr : RCL csz cgv cem cb cl cr cv cp cn cx cD mcl mgv mend mb ml mr mv mp mn mx mD) (hk : ∀ r, K r r) : p_B_refutation cem (fun r => p_M_refutation mend (fun r' => K r r')) := by
  obtain ⟨n, e, hn, he, rfl, rfl, rfl, rfl, hC⟩ := hr.ctx
  exact s_refutation he hk
theorem l_cond {L i : Nat} (hL : L ≤ 3072) (hi : i ≤ L) : (Int32.ofNat L - (6 : Int32)) < nI i ↔ L < i + 6 := by
  have h : (Int32.ofNat L - (6 : Int32)).toInt = (L : Int) - 6 := pk_sub_toInt (a := L) (b := 6) (by omega) (by omega)
  rw [i_toInt_lt, nI_toInt (by omega), h]
  omega
set_option maxHeartbeats 8000000 in
set_option maxRecDepth 100000 in
theorem l_law {L : Nat} {xs : Nat → Int32} (hL : L ≤ 3072) : ∀ (d i : Nat), L < 6 * d + i + 6 → i ≤ L → ∀ ⦃T_length : Int32⦄ ⦃T_bytes : FF⦄ ⦃C_size : Int32⦄ ⦃C_given : Int32⦄ ⦃C_empty : Int32⦄ ⦃C_drafted : Int32⦄ ⦃C_draftedGiven : Int32⦄ ⦃C_block : FF⦄ ⦃C_left : FF⦄ ⦃C_right : FF⦄ ⦃C_pivot : FF⦄ ⦃C_positive : FF⦄ ⦃C_negative : FF⦄ ⦃C_live : FF⦄ ⦃C_needed : FF⦄ ⦃R_kind : Int32⦄ ⦃R_place : Int32⦄ ⦃R_at : Int32⦄ ⦃R_token : Int32⦄ ⦃R_tokenPlace : Int32⦄ ⦃R_number : Int32⦄ ⦃R_state : Int32⦄ ⦃R_block : Int32⦄ ⦃R_positive : Int32⦄ ⦃R_negative : Int32⦄ ⦃R_left : Int32⦄ ⦃R_right : Int32⦄ ⦃R_pivot : Int32⦄ ⦃L_of : FF⦄ ⦃F_cut : Int32⦄ ⦃F_labelledA : Int32⦄ ⦃F_labelledB : Int32⦄ ⦃F_row : FL⦄ ⦃A_root : Int32⦄ ⦃A_words : FL⦄ ⦃A_known : FF⦄ ⦃G_size : Int32⦄ ⦃G_variable : FF⦄ ⦃G_low : FF⦄ ⦃G_high : FF⦄ ⦃G_numberOf : FF⦄ ⦃G_nodeOf : FF⦄ ⦃G_sides : FF⦄ ⦃G_waiting : FF⦄ ⦃B_table : FL⦄ ⦃B_nextTable : FL⦄ ⦃M_clauses : Int32⦄ ⦃M_given : Int32⦄ ⦃M_end : Int32⦄ ⦃M_taped : Int32⦄ ⦃M_size : Int32⦄ ⦃M_at : Int32⦄ ⦃M_to : Int32⦄ ⦃M_sort : Int32⦄ ⦃M_worth : Int32⦄ ⦃M_faultKind : Int32⦄ ⦃M_faultPlace : Int32⦄ ⦃M_isTold : Int32⦄ ⦃M_nodes : Int32⦄ ⦃M_plain : FF⦄ ⦃M_minus : FF⦄ ⦃M_block : FF⦄ ⦃M_left : FF⦄ ⦃M_right : FF⦄ ⦃M_pivot : FF⦄ ⦃M_live : FF⦄ ⦃M_needed : FF⦄ ⦃M_label : FF⦄ ⦃M_tape : FF⦄ ⦃M_of : FL⦄ ⦃M_kept : FL⦄ ⦃M_had : FF⦄ ⦃M_told : FL⦄ ⦃M_first : FL⦄ ⦃M_second : FL⦄ ⦃M_node : FL⦄ ⦃M_nodeVariable : FF⦄ ⦃M_nodeLow : FF⦄ ⦃M_nodeHigh : FF⦄ ⦃M_wait : FF⦄, RT T_length T_bytes M_taped M_tape → RCL C_size C_given C_empty C_block C_left C_right C_pivot C_positive C_negative C_live C_needed M_clauses M_given M_end M_block M_left M_right M_pivot M_plain M_minus M_live M_needed → R_kind = M_faultKind → R_place = M_faultPlace → RL L_of M_label → RA A_root A_words A_known G_size G_variable G_low G_high G_numberOf G_nodeOf M_isTold M_nodes M_kept M_had M_told M_nodeVariable M_nodeLow M_nodeHigh → p_W_law_L18 L xs (d + 1) (nI i) T_length T_bytes C_size C_given C_empty C_drafted C_draftedGiven C_block C_left C_right C_pivot C_positive C_negative C_live C_needed R_kind R_place R_at R_token R_tokenPlace R_number R_state R_block R_positive R_negative R_left R_right R_pivot L_of F_cut F_labelledA F_labelledB F_row A_root A_words A_known G_size G_variable G_low G_high G_numberOf G_nodeOf G_sides G_waiting B_table B_nextTable M_clauses M_given M_end M_taped M_size M_at M_to M_sort M_worth M_faultKind M_faultPlace M_isTold M_nodes M_plain M_minus M_block M_left M_right M_pivot M_live M_needed M_label M_tape M_of M_kept M_had M_told M_first M_second M_node M_nodeVariable M_nodeLow M_nodeHigh M_wait := by
  intro d
  induction d with
  | zero =>
    intro i h1 h2 T_length T_bytes C_size C_given C_empty C_drafted C_draftedGiven C_block C_left C_right C_pivot C_positive C_negative C_live C_needed R_kind R_place R_at R_token R_tokenPlace R_number R_state R_block R_positive R_negative R_left R_right R_pivot L_of F_cut F_labelledA F_labelledB F_row A_root A_words A_known G_size G_variable G_low G_high G_numberOf G_nodeOf G_sides G_waiting B_table B_nextTable M_clauses M_given M_end M_taped M_size M_at M_to M_sort M_worth M_faultKind M_faultPlace M_isTold M_nodes M_plain M_minus M_block M_left M_right M_pivot M_live M_needed M_label M_tape M_of M_kept M_had M_told M_first M_second M_node M_nodeVariable M_nodeLow M_nodeHigh M_wait hT hC hf hp hl hA
    unfold p_W_law_L18
    exact ⟨fun _ => trivial, fun q => absurd ((l_cond hL h2).mpr (by omega)) q⟩
  | succ d ih =>
    intro i h1 h2 T_length T_bytes C_size C_given C_empty C_drafted C_draftedGiven C_block C_left C_right C_pivot C_positive C_negative C_live C_needed R_kind R_place R_at R_token R_tokenPlace R_number R_state R_block R_positive R_negative R_left R_right R_pivot L_of F_cut F_labelledA F_labelledB F_row A_root A_words A_known G_size G_variable G_low G_high G_numberOf G_nodeOf G_sides G_waiting B_table B_nextTable M_clauses M_given M_end M_taped M_size M_at M_to M_sort M_worth M_faultKind M_faultPlace M_isTold M_nodes M_plain M_minus M_block M_left M_right M_pivot M_live M_needed M_label M_tape M_of M_kept M_had M_told M_first M_second M_node M_nodeVariable M_nodeLow M_nodeHigh M_wait hT hC hf hp hl hA
    unfold p_W_law_L18
    refine ⟨fun _ => trivial, fun q => ?_⟩
    have h3 : i + 6 ≤ L := by
      rcases Nat.lt_or_ge L (i + 6) with z | z
      · exact absurd ((l_cond hL h2).mpr z) q
      · exact z
    have e6 : nI i + 6 = nI (i + 6) := nI_add i 6
    have go := ih (i + 6) (by omega) h3
    rw [← e6] at go
    have v1 : vp_in (nI i + (1 : Int32)) L := by rw [show nI i + (1 : Int32) = nI (i + 1) from nI_add i 1]; exact n_in (by omega)
    have v2 : vp_in (nI i + (2 : Int32)) L := by rw [show nI i + (2 : Int32) = nI (i + 2) from nI_add i 2]; exact n_in (by omega)
    have v3 : vp_in (nI i + (3 : Int32)) L := by rw [show nI i + (3 : Int32) = nI (i + 3) from nI_add i 3]; exact n_in (by omega)
    have v4 : vp_in (nI i + (4 : Int32)) L := by rw [show nI i + (4 : Int32) = nI (i + 4) from nI_add i 4]; exact n_in (by omega)
    have v5 : vp_in (nI i + (5 : Int32)) L := by rw [show nI i + (5 : Int32) = nI (i + 5) from nI_add i 5]; exact n_in (by omega)
    refine ⟨n_in (by omega), fun _ => ?_, fun _ => ?_, fun _ => ?_, fun _ => ?_, fun _ => ?_, fun _ => ?_, fun _ => ?_, fun _ => ?_, fun _ => ?_, fun _ => ?_, fun _ => ?_, fun _ => ?_, fun _ => ?_, fun _ => ?_, fun _ => ?_, fun _ => ?_, fun _ => ?_, fun _ => ?_, fun _ _ _ _ _ _ _ _ _ _ _ _ _ _ _ _ _ _ => go hT hC hf hp hl hA⟩
    · exact ⟨v1, v2, v3, v4, v5, s_feed hT (fun r a b c d h => ⟨fun _ => go h hC hf hp hl hA, fun z => absurd rfl z⟩)⟩
    · exact ⟨v1, s_end hT (fun r a b h => ⟨fun _ => go h hC hf hp hl hA, fun z => absurd rfl z⟩)⟩
    · exact s_read hT hC (fun z0 z1 z2 z3 z4 z5 z6 z7 z8 z9 z10 z11 z12 z13 z14 z15 z16 z17 z18 z19 z20 z21 z22 z23 z24 z25 z26 z27 z28 z29 z30 z31 z32 z33 z34 z35 z36 z37 z38 z39 z40 z41 z42 z43 => ⟨fun _ => go RT.zero z43 rfl rfl hl hA, fun z => absurd rfl z⟩)
    · exact ⟨v1, s_fault hf hp (fun r => ⟨fun _ => go hT hC hf hp hl hA, fun z => absurd rfl z⟩)⟩
    · exact s_clear hC (fun z0 z1 z2 z3 z4 z5 z6 z7 z8 z9 z10 z11 => ⟨fun _ => go hT z10 hf hp z11 hA, fun z => absurd rfl z⟩)
    · exact ⟨v1, v2, s_clause hC (fun r => ⟨fun _ => go hT hC hf hp hl hA, fun z => absurd rfl z⟩)⟩
    · exact s_refut2 hC (fun r => ⟨fun _ => go hT hC hf hp hl hA, fun z => absurd rfl z⟩)
    · exact ⟨v1, s_eliminate hC (fun z0 z1 z2 z3 z4 z5 z6 z7 z8 z9 z10 z11 z12 z13 z14 z15 z16 z17 z18 z19 z20 z21 z22 z23 z24 z25 => ⟨fun _ => go hT z25 hf hp hl hA, fun z => absurd rfl z⟩)⟩
    · exact ⟨v1, v2, s_label hl (fun z0 z1 z2 z3 => ⟨fun _ => go hT hC hf hp z3 hA, fun z => absurd rfl z⟩)⟩
    · exact ⟨v1, v2, s_variables hC (fun r => ⟨fun _ => go hT hC hf hp hl hA, fun z => absurd rfl z⟩)⟩
    · exact ⟨v1, v2, s_interpolate hC hl hA (fun z0 z1 z2 z3 z4 z5 z6 z7 z8 z9 z10 z11 z12 z13 z14 z15 z16 z17 z18 z19 z20 z21 z22 z23 z24 z25 z26 z27 z28 => ⟨fun _ => go hT hC hf hp hl z28, fun z => absurd rfl z⟩)⟩
    · exact ⟨v1, s_value hA (fun r => ⟨fun _ => go hT hC hf hp hl hA, fun z => absurd rfl z⟩)⟩
    · exact ⟨v1, v2, s_prt hA (fun r => ⟨fun _ => go hT hC hf hp hl hA, fun z => absurd rfl z⟩)⟩
    · exact ⟨v1, s_told hA (fun r => ⟨fun _ => go hT hC hf hp hl hA, fun z => absurd rfl z⟩)⟩
    · exact ⟨v1, v2, s_graph hA (fun r => ⟨fun _ => go hT hC hf hp hl hA, fun z => absurd rfl z⟩)⟩
    · exact ⟨v1, v2, v3, s_follows hC hl (fun z0 z1 z2 z3 z4 z5 z6 z7 z8 => ⟨fun _ => go hT hC hf hp hl hA, fun z => absurd rfl z⟩)⟩
    · exact ⟨v1, v2, v3, s_gap hC hl (fun z0 z1 z2 z3 z4 z5 z6 z7 z8 => ⟨fun _ => go hT hC hf hp hl hA, fun z => absurd rfl z⟩)⟩
    · exact ⟨v1, s_count hT hC (fun r => ⟨fun _ => go hT hC hf hp hl hA, fun z => absurd rfl z⟩)⟩
theorem RCL.zero {cb cl cr cv cp cn cx mb ml mr mv mp mn mx : FF} : RCL 0 0 0 cb cl cr cv cp cn cx (fun _ => 0) 0 0 (-1) mb ml mr mv mp mn mx (fun _ => 0) :=
  ⟨0, 0, 0, by omega, by omega, rfl, rfl, rfl, rfl, rfl, rfl, fun i a b => by omega, ⟨Or.inl rfl, fun i a b _ => by omega⟩, ⟨fun _ _ _ => rfl, fun _ _ _ _ => rfl, fun _ _ => Or.inl rfl, fun _ _ _ => rfl, fun h => absurd rfl h, fun _ _ _ h => absurd rfl h⟩, fun i a b => by omega⟩

set_option maxHeartbeats 8000000 in
set_option maxRecDepth 100000 in
theorem whole_start {p : Program} {e : Env} {s : State} {m : MethodId} {below : List Frame} {meth : Method} {c : Code} (l : Launch) {b L : Nat} {xs : Nat → Int32} (hL : L ≤ 3072) (C0 : lw_At p s m meth c b L xs) : W p l e room_1 s m #[Value.ref b] below meth c s.heap [] 0 0 (lw_Z below #[Value.ref b] s) (entryFrame m ([Value.ref b] : List Value).toArray 4) := by
  obtain ⟨hx, hb, hr, hml, hown, hts, hX, hbl, hlocks, hgv⟩ := id C0
  have htg : ∀ w ∈ gw_tbl, w.before #[Value.ref b] s = true := fun w hw => hts w (List.mem_filter.mp hw).1
  obtain ⟨c0, iS0, hK0⟩ := u_known (C := R_A) (T := F_A) (N := 4) (n := 4) htg i_A (htg _ wm_252)
  obtain ⟨c1, iS1, hK1⟩ := u_known (C := R_C) (T := F_C) (N := 13) (n := 13) htg i_C (htg _ wm_90)
  obtain ⟨c2, iS2, hK2⟩ := u_known (C := R_F) (T := F_F) (N := 6) (n := 6) htg i_F (htg _ wm_225)
  obtain ⟨c3, iS3, hK3⟩ := u_known (C := R_G) (T := F_G) (N := 8) (n := 8) htg i_G (htg _ wm_258)
  obtain ⟨c4, iS4, hK4⟩ := u_known (C := R_L) (T := F_L) (N := 1) (n := 1) htg i_L (htg _ wm_212)
  obtain ⟨c5, iS5, hK5⟩ := u_known (C := R_R) (T := F_R) (N := 15) (n := 15) htg i_R (htg _ wm_158)
  obtain ⟨c6, iS6, hK6⟩ := u_known (C := R_T) (T := F_T) (N := 2) (n := 2) htg i_T (htg _ wm_74)
  obtain ⟨c7, iS7, hK7⟩ := u_known (C := R_B) (T := F_B) (N := 8) (n := 8) htg i_B (htg _ wm_66)
  obtain ⟨c8, iS8, hK8⟩ := u_known (C := R_M) (T := F_M) (N := 34) (n := 34) htg i_M (htg _ wm_720)
  obtain ⟨D, hKc⟩ : ∃ D : va_G, ∀ (k : Nat) (q : vw_C), classes[k]? = some q → u_Kn s q.1 q.2.1 q.2.2 (D.1 k) (D.2 k) := by
    refine ⟨(fun k => [c0, c1, c2, c3, c4, c5, c6, c7, c8].getD k c0, fun k => [iS0, iS1, iS2, iS3, iS4, iS5, iS6, iS7, iS8].getD k iS0), ?_⟩
    intro k q hq
    match k, hq with
    | 0, hq => cases hq; exact hK0
    | 1, hq => cases hq; exact hK1
    | 2, hq => cases hq; exact hK2
    | 3, hq => cases hq; exact hK3
    | 4, hq => cases hq; exact hK4
    | 5, hq => cases hq; exact hK5
    | 6, hq => cases hq; exact hK6
    | 7, hq => cases hq; exact hK7
    | 8, hq => cases hq; exact hK8
    | k + 9, hq => simp [classes] at hq
  obtain ⟨a_int, k_int, m_int, e1_int, e2_int, e3_int⟩ := Cond.arrayClass_spec (htg _ wm_155)
  obtain ⟨a_long, k_long, m_long, e1_long, e2_long, e3_long⟩ := Cond.arrayClass_spec (htg _ wm_250)
  obtain ⟨a_boolean, k_boolean, m_boolean, e1_boolean, e2_boolean, e3_boolean⟩ := Cond.arrayClass_spec (htg _ wm_156)
  obtain ⟨a_byte, k_byte, m_byte, e1_byte, e2_byte, e3_byte⟩ := Cond.arrayClass_spec (htg _ wm_88)
  obtain ⟨ca, hca0, hca1, hca2, hca3⟩ : ∃ ca : Nat → ClassId, ca 0 = a_int ∧ ca 1 = a_long ∧ ca 2 = a_boolean ∧ ca 3 = a_byte := ⟨fun k => [a_int, a_long, a_boolean, a_byte].getD k a_int, rfl, rfl, rfl, rfl⟩
  subst hca0; subst hca1; subst hca2; subst hca3
  have hK : va_K D classes (TYS ca) s := by
    refine ⟨hKc, fun k q hk => ?_⟩
    match k, hk with
    | 0, hk => cases hk; exact ⟨fun n z => ⟨fun k h => (by cases h), k_int, e2_int, m_int, e3_int⟩, e1_int⟩
    | 1, hk => cases hk; exact ⟨fun n z => ⟨fun k h => (by cases h), k_long, e2_long, m_long, e3_long⟩, e1_long⟩
    | 2, hk => cases hk; exact ⟨fun n z => ⟨fun k h => (by cases h), k_boolean, e2_boolean, m_boolean, e3_boolean⟩, e1_boolean⟩
    | 3, hk => cases hk; exact ⟨fun n z => ⟨fun k h => (by cases h), k_byte, e2_byte, m_byte, e3_byte⟩, e1_byte⟩
    | k + 4, hk => simp [TYS] at hk
  have hN : NW s := by
    intro w hw
    have h2 : isNest w = true := (List.mem_filter.mp hw).2
    have h1 := hts w (List.mem_filter.mp hw).1
    cases w <;> first | exact va_Nw.of rfl h1 | (simp [isNest] at h2)
  obtain ⟨A, hA0⟩ : ∃ A : Nat → Prop, A = fun q => s.heap.size ≤ q := ⟨_, rfl⟩
  have hA1 : ∀ a : Nat, a < s.heap.size → ¬ A a := fun a h => by rw [hA0]; exact Nat.not_le.mpr h
  have hs := flat_of_before _ hgv
  have hel : ∀ j : Nat, j < 6 → (Term.elem (Term.static "CraigBench$Truth" "PATTERNS" "[J") (.int (Int32.ofNat j))).eval #[Value.ref b] s none [] s = some (pat j) := by
    intro j hj
    match j, hj with
    | 0, _ => exact va_eqtl (hs _ (by decide +kernel))
    | 1, _ => exact va_eqtl (hs _ (by decide +kernel))
    | 2, _ => exact va_eqtl (hs _ (by decide +kernel))
    | 3, _ => exact va_eqtl (hs _ (by decide +kernel))
    | 4, _ => exact va_eqtl (hs _ (by decide +kernel))
    | 5, _ => exact va_eqtl (hs _ (by decide +kernel))
    | j + 6, h => omega
  have hlen : (Term.length (Term.static "CraigBench$Truth" "PATTERNS" "[J")).eval #[Value.ref b] s none [] s = some (.int (Int32.ofNat 6)) := va_eqt (hs _ (by decide +kernel))
  obtain ⟨tp, htp, hT⟩ := va_Tof (tm := .static "CraigBench$Truth" "PATTERNS" "[J") (ty := .long) (N := 6) (f := pat) (A := A) (by decide) (hs _ (by decide +kernel)) hlen hel hA1
  have hZ : va_Z R_U "PATTERNS" "[J" (.ref tp) A s s.heap := va_Zref (hts (.laysStatic "CraigBench$Truth" "PATTERNS" "[J") (List.mem_of_getElem? (i := 603) (by decide +kernel))) (htg _ wm_63) htp hA1
  have C1 : CX p s m #[Value.ref b] meth c code 4 ret R_W meth.name D ca tp A := ⟨hx, hb, hml, hr, hown, htg, hlocks, rfl, ⟨hK, hN, hZ, hT⟩, fun q h => by rw [hA0]; exact h⟩
  have hw : WH D A s [] s.heap [] := ⟨fun k q h => by simp at h, ⟨fun i j p q h => by simp at h, fun k q h => by simp at h⟩, va_S.rf⟩
  have hl := lv_entry ([.ref b]) (n := 4) (Nat.le_of_ble_eq_true rfl)
  rw [lg_entry_eq]
  generalize (lg_sl ([.ref b]) ++ List.replicate (4 - (lg_sl ([.ref b])).length) Slot.unset).toArray = ls at hl ⊢
  have hl : lv_has ls 4 [(0, .ref b)] := hl
  refine x_new C1 hw (ci := 7) (fs := [.null, .null, .null, .null, .null, .null, .null, .null]) rfl i_B tk_B wm_65 wm_66 wm_53 (fun j hj => by rcases (show j = 0 ∨ j = 1 ∨ j = 2 ∨ j = 3 ∨ j = 4 ∨ j = 5 ∨ j = 6 ∨ j = 7 by omega) with rfl | rfl | rfl | rfl | rfl | rfl | rfl | rfl <;> rfl) (Nat.le_of_ble_eq_true rfl) (Nat.le_of_ble_eq_true rfl) d_W_law_0 (fun o H hw => ?_)
  refine W.widen (k := 1) (n := 8) (by decide) (by decide) ?_
  refine lv_dup hx hb d_W_law_3 rfl ?_
  have hw : WH D A s [(o, .inr (7, [.null, .null, .null, .null, .null, .null, .null, .null]))] _ _ := hw
  refine x_callIv C1 hw hl (c_B_init (k := fun f => ∀ j, j < 11 → f j = 2) (fill_ok (fun f hf => hf))) g_B_init wm_67 wm_68 rfl (As := []) (rest := [.ref o]) rfl rfl (Nat.le_of_ble_eq_true rfl) ⟨rfl, rfl⟩ ⟨Nat.le_of_ble_eq_true rfl, Nat.le_of_ble_eq_true rfl⟩ ⟨Nat.le_of_ble_eq_true rfl, Nat.le_of_ble_eq_true rfl⟩ d_W_law_4 (fun u H locs hf hw => ?_)
  obtain ⟨q1, q2, q3, q4, q5, q6, q7, q8, q9, q10, q11, q12, q13, q14, q16, q17, q18, q19, q20, q21, q22, q23, q24, q25, q26, q27, q28, q29, q30, f15⟩ := u
  dsimp only at hf
  refine W.widen (k := 30) (n := 9707) (by decide) (by decide) ?_
  obtain ⟨ad, hadr⟩ : ∃ ad : Nat → Nat, ad = fun k => [o, q1, q2, q3, q4, q5, q6, q7, q8, q9, q10, q11, q12, q13, q14, q16, q17, q18, q19, q20, q21, q22, q23, q24, q25, q26, q27, q28, q29, q30].getD k 0 := ⟨_, rfl⟩
  have hw : WH D A s (WB ad ca 0 (fun _ => (0 : Int32)) 0 0 0 0 0 (fun _ => (0 : Int32)) (fun _ => (0 : Int32)) (fun _ => (0 : Int32)) (fun _ => (0 : Int32)) (fun _ => (0 : Int32)) (fun _ => (0 : Int32)) (fun _ => (0 : Int32)) (fun _ => (0 : Int32)) 0 (-1) 0 0 0 0 0 0 0 0 0 0 0 f15 0 0 0 (fun _ => (0 : Int64)) 0 (fun _ => (0 : Int64)) (fun _ => (0 : Int32)) 0 (fun _ => (0 : Int32)) (fun _ => (0 : Int32)) (fun _ => (0 : Int32)) (fun _ => (0 : Int32)) (fun _ => (0 : Int32)) (fun _ => (0 : Int32)) (fun _ => (0 : Int32)) (fun _ => (0 : Int64)) (fun _ => (0 : Int64))) H locs := by rw [hadr]; exact hw
  have e0 : o = ad 0 := by rw [hadr]; rfl
  rw [e0]
  refine lv_astore_n (lv' := [(1, .ref (ad 0)), (0, .ref b)]) hx hb d_W_law_7 rfl hl (by decide) rfl (fun ls hl => ?_)
  refine x_new C1 hw (ci := 8) (fs := [.null, .null, .null, .null, .null, .null, .null, .null, .int 0, .int 0, .int 0, .null, .null, .int 0, .int 0, .int 0, .int 0, .int 0, .int 0, .int 0, .int 0, .null, .null, .null, .null, .int 0, .null, .null, .null, .null, .null, .null, .int 0, .null]) rfl i_M tk_M wm_719 wm_720 wm_62 (fun j hj => by rcases (show j = 0 ∨ j = 1 ∨ j = 2 ∨ j = 3 ∨ j = 4 ∨ j = 5 ∨ j = 6 ∨ j = 7 ∨ j = 8 ∨ j = 9 ∨ j = 10 ∨ j = 11 ∨ j = 12 ∨ j = 13 ∨ j = 14 ∨ j = 15 ∨ j = 16 ∨ j = 17 ∨ j = 18 ∨ j = 19 ∨ j = 20 ∨ j = 21 ∨ j = 22 ∨ j = 23 ∨ j = 24 ∨ j = 25 ∨ j = 26 ∨ j = 27 ∨ j = 28 ∨ j = 29 ∨ j = 30 ∨ j = 31 ∨ j = 32 ∨ j = 33 by omega) with rfl | rfl | rfl | rfl | rfl | rfl | rfl | rfl | rfl | rfl | rfl | rfl | rfl | rfl | rfl | rfl | rfl | rfl | rfl | rfl | rfl | rfl | rfl | rfl | rfl | rfl | rfl | rfl | rfl | rfl | rfl | rfl | rfl | rfl <;> rfl) (Nat.le_of_ble_eq_true rfl) (Nat.le_of_ble_eq_true rfl) d_W_law_8 (fun o2 H hw => ?_)
  refine W.widen (k := 31) (n := 9741) (by decide) (by decide) ?_
  refine lv_dup hx hb d_W_law_11 rfl ?_
  have hw : WH D A s (WB ad ca 0 (fun _ => (0 : Int32)) 0 0 0 0 0 (fun _ => (0 : Int32)) (fun _ => (0 : Int32)) (fun _ => (0 : Int32)) (fun _ => (0 : Int32)) (fun _ => (0 : Int32)) (fun _ => (0 : Int32)) (fun _ => (0 : Int32)) (fun _ => (0 : Int32)) 0 (-1) 0 0 0 0 0 0 0 0 0 0 0 f15 0 0 0 (fun _ => (0 : Int64)) 0 (fun _ => (0 : Int64)) (fun _ => (0 : Int32)) 0 (fun _ => (0 : Int32)) (fun _ => (0 : Int32)) (fun _ => (0 : Int32)) (fun _ => (0 : Int32)) (fun _ => (0 : Int32)) (fun _ => (0 : Int32)) (fun _ => (0 : Int32)) (fun _ => (0 : Int64)) (fun _ => (0 : Int64)) ++ [(o2, .inr (8, [.null, .null, .null, .null, .null, .null, .null, .null, .int 0, .int 0, .int 0, .null, .null, .int 0, .int 0, .int 0, .int 0, .int 0, .int 0, .int 0, .int 0, .null, .null, .null, .null, .int 0, .null, .null, .null, .null, .null, .null, .int 0, .null]))]) _ _ := hw
  refine x_callIv C1 hw hl (MTv.frL (pre := WB ad ca 0 (fun _ => (0 : Int32)) 0 0 0 0 0 (fun _ => (0 : Int32)) (fun _ => (0 : Int32)) (fun _ => (0 : Int32)) (fun _ => (0 : Int32)) (fun _ => (0 : Int32)) (fun _ => (0 : Int32)) (fun _ => (0 : Int32)) (fun _ => (0 : Int32)) 0 (-1) 0 0 0 0 0 0 0 0 0 0 0 f15 0 0 0 (fun _ => (0 : Int64)) 0 (fun _ => (0 : Int64)) (fun _ => (0 : Int32)) 0 (fun _ => (0 : Int32)) (fun _ => (0 : Int32)) (fun _ => (0 : Int32)) (fun _ => (0 : Int32)) (fun _ => (0 : Int32)) (fun _ => (0 : Int32)) (fun _ => (0 : Int32)) (fun _ => (0 : Int64)) (fun _ => (0 : Int64))) (c_M_init)) g_M_init wm_721 wm_722 rfl (As := []) (rest := [.ref o2]) rfl rfl (Nat.le_of_ble_eq_true rfl) ⟨rfl, rfl⟩ ⟨Nat.le_of_ble_eq_true rfl, Nat.le_of_ble_eq_true rfl⟩ ⟨Nat.le_of_ble_eq_true rfl, Nat.le_of_ble_eq_true rfl⟩ d_W_law_12 (fun u H locs _ hw => ?_)
  obtain ⟨q1, q2, q3, q4, q5, q6, q7, q8, q9, q10, q11, q12, q13, q14, q15, q16, q17, q18, q19, q20, q21⟩ := u
  refine W.widen (k := 52) (n := 26422) (by decide) (by decide) ?_
  obtain ⟨am, hamr⟩ : ∃ am : Nat → Nat, am = fun k => [o2, q1, q2, q3, q4, q5, q6, q7, q8, q9, q10, q11, q12, q13, q14, q15, q16, q17, q18, q19, q20, q21].getD k 0 := ⟨_, rfl⟩
  have hw : WH D A s (WB ad ca 0 (fun _ => (0 : Int32)) 0 0 0 0 0 (fun _ => (0 : Int32)) (fun _ => (0 : Int32)) (fun _ => (0 : Int32)) (fun _ => (0 : Int32)) (fun _ => (0 : Int32)) (fun _ => (0 : Int32)) (fun _ => (0 : Int32)) (fun _ => (0 : Int32)) 0 (-1) 0 0 0 0 0 0 0 0 0 0 0 f15 0 0 0 (fun _ => (0 : Int64)) 0 (fun _ => (0 : Int64)) (fun _ => (0 : Int32)) 0 (fun _ => (0 : Int32)) (fun _ => (0 : Int32)) (fun _ => (0 : Int32)) (fun _ => (0 : Int32)) (fun _ => (0 : Int32)) (fun _ => (0 : Int32)) (fun _ => (0 : Int32)) (fun _ => (0 : Int64)) (fun _ => (0 : Int64)) ++ WM am ca 0 0 (-1) 0 0 0 0 0 0 0 (-1) 0 0 (fun _ => (0 : Int32)) (fun _ => (0 : Int32)) (fun _ => (0 : Int32)) (fun _ => (0 : Int32)) (fun _ => (0 : Int32)) (fun _ => (0 : Int32)) (fun _ => (0 : Int32)) (fun _ => (0 : Int32)) (fun _ => (0 : Int32)) (fun _ => (0 : Int32)) (fun _ => (0 : Int64)) (fun _ => (0 : Int64)) (fun _ => (0 : Int32)) (fun _ => (0 : Int64)) (fun _ => (0 : Int64)) (fun _ => (0 : Int64)) (fun _ => (0 : Int64)) (fun _ => (0 : Int32)) (fun _ => (0 : Int32)) (fun _ => (0 : Int32)) (fun _ => (0 : Int32))) H locs := by rw [hamr]; exact hw
  have e1 : o2 = am 0 := by rw [hamr]; rfl
  rw [e1]
  refine lv_astore_n (lv' := [(2, .ref (am 0)), (1, .ref (ad 0)), (0, .ref b)]) hx hb d_W_law_15 rfl hl (by decide) rfl (fun ls hl => ?_)
  refine lv_iconst (v := 0) hx hb d_W_law_16 (by decide) ?_
  refine lv_istore_n (lv' := [(3, .int 0), (2, .ref (am 0)), (1, .ref (ad 0)), (0, .ref b)]) hx hb d_W_law_17 rfl hl (by decide) rfl (fun ls hl => ?_)
  obtain ⟨n, hn⟩ := law_pure L xs hL f15 hf
  exact b_W_law_L18 C1 hA0 hX hbl n _ _ _ _ _ _ _ _ _ _ _ _ _ _ _ _ _ _ _ _ _ _ _ _ _ _ _ _ _ _ _ _ _ _ _ _ _ _ _ _ _ _ _ _ _ _ _ _ _ _ _ _ _ _ _ _ _ _ _ _ _ _ _ _ _ _ _ _ _ _ _ _ _ _ _ _ _ _ _ _ _ hn hw (lv_sub hl [3, 2, 1, 0] rfl)

theorem fill_loop {k : (Nat → Int32) → Prop} : ∀ (d i : Nat) (f : Nat → Int32), d + i = 11 → (∀ j, j < i → f j = 2) → (∀ f' : Nat → Int32, (∀ j, j < 11 → f' j = 2) → k f') → p_J_fillC_L5 (2 : Int32) (11 : Int32) k (d + 1) (nI i) f
  | 0, i, f, hd, hf, hk => by
    have : i = 11 := by omega
    subst this
    unfold p_J_fillC_L5
    exact ⟨fun _ => hk f hf, fun h => absurd (by decide) h⟩
  | d + 1, i, f, hd, hf, hk => by
    have hi : i < 11 := by omega
    unfold p_J_fillC_L5
    refine ⟨fun h => absurd h (nI_ge hi (by decide)), fun _ => ⟨vp_in_nI hi (by decide), ?_⟩⟩
    rw [nI_clamp (by omega), nI_1]
    refine fill_loop d (i + 1) _ (by omega) (fun j hj => ?_) hk
    unfold upd
    by_cases e : j = i
    · rw [if_pos e]
    · rw [if_neg e]; exact hf j (by omega)
theorem fill_ok {k : (Nat → Int32) → Prop} (hk : ∀ f : Nat → Int32, (∀ j, j < 11 → f j = 2) → k f) : p_J_fillC (fun _ => (0 : Int32)) (2 : Int32) k := by
  unfold p_J_fillC
  exact ⟨12, fill_loop 11 0 _ rfl (fun j hj => absurd hj (Nat.not_lt_zero j)) hk⟩

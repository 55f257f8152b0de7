/-! PURE: the reader's steps -/
abbrev FF : Type := Nat → Int32
abbrev K22 : Type := Int32 → Int32 → FF → FF → FF → FF → FF → FF → FF → Int32 → Int32 → Int32 → Int32 → Int32 → Int32 → Int32 → Int32 → Int32 → Int32 → Int32 → Int32 → Int32 → Prop
abbrev K18 : Type := Int32 → Int32 → FF → FF → FF → FF → FF → FF → FF → Int32 → Int32 → Int32 → Int32 → Int32 → Int32 → Int32 → Int32 → Int32 → Prop
abbrev K15 : Type := Int32 → Int32 → Int32 → Int32 → Int32 → Int32 → Int32 → Int32 → FF → FF → FF → FF → FF → FF → FF → Prop
section TT
variable {dr dg : Int32} {B L R V P N X : FF} {kd pl c tp num b ps ng l r v : Int32} {k : K18}
theorem tt0 (h : p_R_takeStart dr dg kd pl c tp 0 (fun kd pl st => k dr dg B L R V P N X kd pl st b ps ng l r v)) : p_R_takeToken dr dg B L R V P N X kd pl c tp num 0 b ps ng l r v k := by
  unfold p_R_takeToken
  exact ⟨fun _ => h, fun q => absurd q (by decide), fun q => absurd q (by decide), fun q => absurd q (by decide), fun q => absurd q (by decide), fun q => absurd q (by decide), fun q => absurd q (by decide), fun q => absurd q (by decide), fun q => absurd q (by decide), fun q => absurd rfl q⟩
theorem tt1 (h : p_R_takeNumber dr P N kd pl c tp num 1 b ps ng l r v (fun kd pl st b ps ng l r v => k dr dg B L R V P N X kd pl st b ps ng l r v)) : p_R_takeToken dr dg B L R V P N X kd pl c tp num 1 b ps ng l r v k := by
  unfold p_R_takeToken
  exact ⟨fun q => absurd q (by decide), fun _ => h, fun q => absurd q (by decide), fun q => absurd q (by decide), fun q => absurd q (by decide), fun q => absurd q (by decide), fun q => absurd q (by decide), fun q => absurd q (by decide), fun q => absurd q (by decide), fun _ q => absurd rfl q⟩
theorem tt2 (h : p_R_takeColon kd pl c tp 2 ps ng (fun kd pl st ps ng => k dr dg B L R V P N X kd pl st b ps ng l r v)) : p_R_takeToken dr dg B L R V P N X kd pl c tp num 2 b ps ng l r v k := by
  unfold p_R_takeToken
  exact ⟨fun q => absurd q (by decide), fun q => absurd q (by decide), fun _ => h, fun q => absurd q (by decide), fun q => absurd q (by decide), fun q => absurd q (by decide), fun q => absurd q (by decide), fun q => absurd q (by decide), fun q => absurd q (by decide), fun _ _ q => absurd rfl q⟩
theorem tt3 (h : p_R_takeInsideClause dr dg B L R V P N X kd pl c tp num 3 b ps ng l r v (fun dr dg B L R V P N X kd pl st b ps ng l r v => k dr dg B L R V P N X kd pl st b ps ng l r v)) : p_R_takeToken dr dg B L R V P N X kd pl c tp num 3 b ps ng l r v k := by
  unfold p_R_takeToken
  exact ⟨fun q => absurd q (by decide), fun q => absurd q (by decide), fun q => absurd q (by decide), fun _ => h, fun q => absurd q (by decide), fun q => absurd q (by decide), fun q => absurd q (by decide), fun q => absurd q (by decide), fun q => absurd q (by decide), fun _ _ _ q => absurd rfl q⟩
theorem tt4 (h : p_R_takeNumber dr P N kd pl c tp num 4 b ps ng l r v (fun kd pl st b ps ng l r v => k dr dg B L R V P N X kd pl st b ps ng l r v)) : p_R_takeToken dr dg B L R V P N X kd pl c tp num 4 b ps ng l r v k := by
  unfold p_R_takeToken
  exact ⟨fun q => absurd q (by decide), fun q => absurd q (by decide), fun q => absurd q (by decide), fun q => absurd q (by decide), fun _ => h, fun q => absurd q (by decide), fun q => absurd q (by decide), fun q => absurd q (by decide), fun q => absurd q (by decide), fun _ _ _ _ q => absurd rfl q⟩
theorem tt5 (h : p_R_takeNumber dr P N kd pl c tp num 5 b ps ng l r v (fun kd pl st b ps ng l r v => k dr dg B L R V P N X kd pl st b ps ng l r v)) : p_R_takeToken dr dg B L R V P N X kd pl c tp num 5 b ps ng l r v k := by
  unfold p_R_takeToken
  exact ⟨fun q => absurd q (by decide), fun q => absurd q (by decide), fun q => absurd q (by decide), fun q => absurd q (by decide), fun q => absurd q (by decide), fun _ => h, fun q => absurd q (by decide), fun q => absurd q (by decide), fun q => absurd q (by decide), fun _ _ _ _ _ q => absurd rfl q⟩
theorem tt6 (h : p_R_takeNumber dr P N kd pl c tp num 6 b ps ng l r v (fun kd pl st b ps ng l r v => k dr dg B L R V P N X kd pl st b ps ng l r v)) : p_R_takeToken dr dg B L R V P N X kd pl c tp num 6 b ps ng l r v k := by
  unfold p_R_takeToken
  exact ⟨fun q => absurd q (by decide), fun q => absurd q (by decide), fun q => absurd q (by decide), fun q => absurd q (by decide), fun q => absurd q (by decide), fun q => absurd q (by decide), fun _ => h, fun q => absurd q (by decide), fun q => absurd q (by decide), fun _ _ _ _ _ _ q => absurd rfl q⟩
theorem tt7 (h : p_R_takeNumber dr P N kd pl c tp num 7 b ps ng l r v (fun kd pl st b ps ng l r v => k dr dg B L R V P N X kd pl st b ps ng l r v)) : p_R_takeToken dr dg B L R V P N X kd pl c tp num 7 b ps ng l r v k := by
  unfold p_R_takeToken
  exact ⟨fun q => absurd q (by decide), fun q => absurd q (by decide), fun q => absurd q (by decide), fun q => absurd q (by decide), fun q => absurd q (by decide), fun q => absurd q (by decide), fun q => absurd q (by decide), fun _ => h, fun q => absurd q (by decide), fun _ _ _ _ _ _ _ q => absurd rfl q⟩
theorem tt8 (h : p_R_takeClose dr B L R V P N X kd pl c tp 8 l r v (fun dr B L R V P N X kd pl st => k dr dg B L R V P N X kd pl st b ps ng l r v)) : p_R_takeToken dr dg B L R V P N X kd pl c tp num 8 b ps ng l r v k := by
  unfold p_R_takeToken
  exact ⟨fun q => absurd q (by decide), fun q => absurd q (by decide), fun q => absurd q (by decide), fun q => absurd q (by decide), fun q => absurd q (by decide), fun q => absurd q (by decide), fun q => absurd q (by decide), fun q => absurd q (by decide), fun _ => h, fun _ _ _ _ _ _ _ _ q => absurd rfl q⟩
end TT
section TN
variable {dr : Int32} {P N : FF} {kd pl tp num b ps ng l r v c st : Int32} {k : Int32 → Int32 → Int32 → Int32 → Int32 → Int32 → Int32 → Int32 → Int32 → Prop}
theorem tn1 (h : p_R_takeBlock kd pl tp num 1 b (fun kd pl st b => k kd pl st b ps ng l r v)) : p_R_takeNumber dr P N kd pl (-2) tp num 1 b ps ng l r v k := by
  unfold p_R_takeNumber
  exact ct rfl ⟨fun _ => h, fun q => absurd q (by decide), fun q => absurd q (by decide), fun q => absurd q (by decide), fun q => absurd q (by decide), fun q => absurd q (by decide), fun q => absurd q (by decide), fun q => absurd rfl q⟩
theorem tn3 (h : p_R_takeLiteral kd pl tp num 3 ps ng (fun kd pl st ps ng => k kd pl st b ps ng l r v)) : p_R_takeNumber dr P N kd pl (-2) tp num 3 b ps ng l r v k := by
  unfold p_R_takeNumber
  exact ct rfl ⟨fun q => absurd q (by decide), fun q => absurd q (by decide), fun _ => h, fun q => absurd q (by decide), fun q => absurd q (by decide), fun q => absurd q (by decide), fun q => absurd q (by decide), fun _ _ q => absurd rfl q⟩
theorem tn4 (h : p_R_takeLiteral kd pl tp num 4 ps ng (fun kd pl st ps ng => k kd pl st b ps ng l r v)) : p_R_takeNumber dr P N kd pl (-2) tp num 4 b ps ng l r v k := by
  unfold p_R_takeNumber
  exact ct rfl ⟨fun q => absurd q (by decide), fun q => absurd q (by decide), fun q => absurd q (by decide), fun _ => h, fun q => absurd q (by decide), fun q => absurd q (by decide), fun q => absurd q (by decide), fun _ _ _ q => absurd rfl q⟩
theorem tn5 (h : p_R_takeLeft dr kd pl tp num 5 l (fun kd pl st l => k kd pl st b ps ng l r v)) : p_R_takeNumber dr P N kd pl (-2) tp num 5 b ps ng l r v k := by
  unfold p_R_takeNumber
  exact ct rfl ⟨fun q => absurd q (by decide), fun q => absurd q (by decide), fun q => absurd q (by decide), fun q => absurd q (by decide), fun _ => h, fun q => absurd q (by decide), fun q => absurd q (by decide), fun _ _ _ _ q => absurd rfl q⟩
theorem tn6 (h : p_R_takeRight dr kd pl tp num 6 r (fun kd pl st r => k kd pl st b ps ng l r v)) : p_R_takeNumber dr P N kd pl (-2) tp num 6 b ps ng l r v k := by
  unfold p_R_takeNumber
  exact ct rfl ⟨fun q => absurd q (by decide), fun q => absurd q (by decide), fun q => absurd q (by decide), fun q => absurd q (by decide), fun q => absurd q (by decide), fun _ => h, fun q => absurd q (by decide), fun _ _ _ _ _ q => absurd rfl q⟩
theorem tn7 (h : p_R_takePivot P N kd pl tp num l r (fun kd pl st v => k kd pl st b ps ng l r v)) : p_R_takeNumber dr P N kd pl (-2) tp num 7 b ps ng l r v k := by
  unfold p_R_takeNumber
  exact ct rfl ⟨fun q => absurd q (by decide), fun q => absurd q (by decide), fun q => absurd q (by decide), fun q => absurd q (by decide), fun q => absurd q (by decide), fun q => absurd q (by decide), fun _ => h, fun _ _ _ _ _ _ q => absurd rfl q⟩
theorem tnF (hc : ¬ c = -2) (h : k 1 tp st b ps ng l r v) : p_R_takeNumber dr P N kd pl c tp num st b ps ng l r v k := by
  unfold p_R_takeNumber p_R_fail
  exact cf hc h
end TN

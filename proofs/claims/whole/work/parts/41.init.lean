/-! What the constructors leave, by computation. -/
def pm_cs : List Nat := [0, 1, 5, 6, 14, 19, 20, 31, 32, 40, 46, 64, 73, 74]
def pm_Tc (mi : Nat) : pm_Cd × Nat := bif pm_cs.any (Nat.beq mi) then pm_Tf mi else ([], 0)
theorem pm_Tc_T (mi : Nat) : pm_Tc mi = pm_Tf mi ∨ pm_Tc mi = ([], 0) := by
  unfold pm_Tc
  cases pm_cs.any (Nat.beq mi)
  · exact Or.inr rfl
  · exact Or.inl rfl
theorem pm_Tc_c : pm_cs.all (fun mi => pm_nsc (pm_Tf mi).1) = true := by decide +kernel
theorem pm_Tc_n (mi : Nat) : pm_nsc (pm_Tc mi).1 = true := by
  unfold pm_Tc
  cases h : pm_cs.any (Nat.beq mi)
  · rfl
  · obtain ⟨x, hx, he⟩ := List.any_eq_true.mp h
    have e := pm_beq he
    subst e
    exact List.all_eq_true.mp pm_Tc_c mi hx
def pm_v0 : pm_S := (0, fun _ _ => 0, fun _ _ => false, fun _ _ => none)
def pm_o1 : Option pm_Rs := pm_callF pm_Tc (0, fun _ => 0) 2000 7 46 [pm_r 0] (pm_made pm_v0)
def pm_v1 : pm_S := (pm_o1.getD (none, pm_v0)).2
def pm_o2 : Option pm_Rs := pm_callF pm_Tc (0, fun _ => 0) 3000 7 73 [pm_r 67] (pm_made pm_v1)
def pm_v2 : pm_S := (pm_o2.getD (none, pm_v0)).2
def pm_sn (r : Option pm_Rs) : Bool := match r with
  | some (none, _) => true
  | _ => false
theorem pm_sn_of {r : Option pm_Rs} {v0 : pm_S} (h : pm_sn r = true) : r = some (none, (r.getD (none, v0)).2) := by
  rcases r with _ | ⟨_ | v, u⟩
  · cases h
  · rfl
  · cases h
theorem pm_o1_s : pm_sn pm_o1 = true := by decide +kernel
theorem pm_v1_n : pm_v1.1 = 67 := by decide +kernel
theorem pm_o2_s : pm_sn pm_o2 = true := by decide +kernel
theorem pm_v2_n : pm_v2.1 = 85 := by decide +kernel

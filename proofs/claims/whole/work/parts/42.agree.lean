/-! Two memories that agree on every slot that is there. -/
def pm_ags (ty k j : Nat) (u v : pm_S) : Bool := match ty with
  | 0 => decide (u.2.1 k j = v.2.1 k j)
  | 1 => decide (u.2.2.1 k j = v.2.2.1 k j)
  | _ => decide (u.2.2.2 k j = v.2.2.2 k j)
def pm_agk (u v : pm_S) (k : Nat) : Bool := match pm_kx k with
  | .inl ci => (List.range (pm_tl (pm_fs0 ci)).length).all (fun j => pm_ags ((pm_tl (pm_fs0 ci)).getD j 0) k j u v)
  | .inr (t, len) => (List.range len).all (fun j => pm_ags t k j u v)
def pm_ag (u v : pm_S) : Bool := Nat.beq u.1 v.1 && (List.range u.1).all (pm_agk u v)
theorem pm_ags_v {ty k j z : Nat} {u v : pm_S} (h : pm_ags ty k j u v = true) : pm_sv ty z (u.2.1 k j) (u.2.2.1 k j) (u.2.2.2 k j) = pm_sv ty z (v.2.1 k j) (v.2.2.1 k j) (v.2.2.2 k j) := by
  rcases ty with _ | _ | ty
  · exact congrArg (fun q => Value.int q) (of_decide_eq_true h)
  · exact congrArg (fun q => Value.int (bif q then 1 else 0)) (of_decide_eq_true h)
  · exact congrArg (fun q => va_rf (pm_rz z q)) (of_decide_eq_true h)
theorem pm_arrV {cI : ClassId} {N : Nat} {f g : Nat → Value} (h : ∀ j, j < N → f j = g j) : arrV cI N f = arrV cI N g := by
  unfold arrV
  have e : (fun j : Fin N => f j.val) = (fun j : Fin N => g j.val) := funext fun j => h j.val j.isLt
  rw [e]
theorem pm_ag_cell {G : pm_G} {u v : pm_S} {k : Nat} {H : Heap} {a : Nat} (h : pm_agk u v k = true) (hu : va_at G.1 pm_cl (a, pm_cell G (pm_kx k) (u.2.1 k) (u.2.2.1 k) (u.2.2.2 k)) H) : va_at G.1 pm_cl (a, pm_cell G (pm_kx k) (v.2.1 k) (v.2.2.1 k) (v.2.2.2 k)) H := by
  unfold pm_agk at h
  rcases hk : pm_kx k with ci | ⟨t, len⟩
  · rw [hk] at h hu
    have e : pm_cell G (.inl ci) (u.2.1 k) (u.2.2.1 k) (u.2.2.2 k) = pm_cell G (.inl ci) (v.2.1 k) (v.2.2.1 k) (v.2.2.2 k) := by
      show (Sum.inr (ci, pm_fs (pm_tl (pm_fs0 ci)) G.2.2.1 (u.2.1 k) (u.2.2.1 k) (u.2.2.2 k)) : va_E) = Sum.inr (ci, pm_fs (pm_tl (pm_fs0 ci)) G.2.2.1 (v.2.1 k) (v.2.2.1 k) (v.2.2.2 k))
      have e2 : pm_fs (pm_tl (pm_fs0 ci)) G.2.2.1 (u.2.1 k) (u.2.2.1 k) (u.2.2.2 k) = pm_fs (pm_tl (pm_fs0 ci)) G.2.2.1 (v.2.1 k) (v.2.2.1 k) (v.2.2.2 k) := List.map_congr_left fun j hj => pm_ags_v (List.all_eq_true.mp h j hj)
      rw [e2]
    rw [← e]
    exact hu
  · rw [hk] at h hu
    have hj : ∀ j, j < len → pm_ags t k j u v = true := fun j hj => List.all_eq_true.mp h j (List.mem_range.mpr hj)
    have e : vp_cell (G.2.1 t) (len, pm_ac t G.2.2.1 (u.2.1 k) (u.2.2.1 k) (u.2.2.2 k)) = vp_cell (G.2.1 t) (len, pm_ac t G.2.2.1 (v.2.1 k) (v.2.2.1 k) (v.2.2.2 k)) := by
      rcases t with _ | _ | t
      · exact pm_arrV fun j h1 => pm_ags_v (ty := 0) (z := 0) (hj j h1)
      · exact pm_arrV fun j h1 => pm_ags_v (ty := 1) (z := 0) (hj j h1)
      · exact pm_arrV fun j h1 => pm_ags_v (ty := t + 2) (z := G.2.2.1) (hj j h1)
    have hu2 : H[a]? = some (vp_cell (G.2.1 t) (len, pm_ac t G.2.2.1 (u.2.1 k) (u.2.2.1 k) (u.2.2.2 k))) := hu
    rw [e] at hu2
    exact hu2
theorem pm_ag_H {G : pm_G} {u v : pm_S} {H : Heap} (h : pm_ag u v = true) (hH : pm_H G u H) : pm_H G v H := by
  simp only [pm_ag, Bool.and_eq_true] at h
  have e := pm_beq h.1
  refine ⟨by rw [← e]; exact hH.1, fun k q hq => ?_⟩
  have hk : k < v.1 := by
    have h1 := (List.getElem?_eq_some_iff.mp hq).1
    unfold pm_ws at h1
    rw [List.length_map, List.length_range] at h1
    exact h1
  rw [pm_ws_get hk] at hq
  cases hq
  have hk' : k < u.1 := by rw [e]; exact hk
  exact pm_ag_cell (List.all_eq_true.mp h.2 k (List.mem_range.mpr hk')) (hH.2 k _ (pm_ws_get hk'))
def pm_X0 : Nat → Nat → Int32 := fun k j => bif Nat.beq k 29 && Nat.beq j 10 then 1 else bif Nat.beq k 0 && Nat.beq j 2 then (-1000000) else bif Nat.beq k 67 && Nat.beq j 18 then 1 else bif Nat.beq k 67 && Nat.beq j 22 then (-1000) else 0
def pm_W0 : Nat → Nat → Bool := fun _ _ => false
def pm_f0 : Nat → Nat → Nat := fun s j => 3 + 14 * s + j
theorem pm_ag2 : pm_ag pm_v2 (pm_u pm_X0 pm_W0 pm_f0) = true := by decide +kernel

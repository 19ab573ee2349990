/-! The memory of places in the model's heap: place k stands at z + k, z the heap's size at the law's start; all that is made since is a place, in the order of making. -/
def pm_cn (k : Nat) : String := ["PlatformDoors", "PlatformDoors$Frame", "PlatformDoors$Leaf", "PlatformDoors$Line", "PlatformDoors$Platform", "PlatformDoors$Train", "PlatformDoorsModel", "PlatformDoors$Side", "PlatformDoorsLaw"].getD k ""
abbrev pm_Fd : Type := String × String × String × Bool × Nat
def pm_side : List pm_Fd := [("PlatformDoors$Side", "leaves", "[LPlatformDoors$Leaf;", true, 2), ("PlatformDoors$Side", "newest", "LPlatformDoors$Frame;", true, 2), ("PlatformDoors$Side", "incoming", "LPlatformDoors$Line;", true, 2), ("PlatformDoors$Side", "outgoing", "LPlatformDoors$Line;", true, 2), ("PlatformDoors$Side", "steps", "I", false, 0), ("PlatformDoors$Side", "state", "I", false, 0), ("PlatformDoors$Side", "warningBegan", "I", false, 0), ("PlatformDoors$Side", "openedAt", "I", false, 0), ("PlatformDoors$Side", "openings", "I", false, 0)]
def pm_mf (n : String) (d : String) (t : Nat) : pm_Fd := ("PlatformDoorsModel", n, d, Nat.beq t 2, t)
def pm_fd : List (String × List pm_Fd) := [
  ("PlatformDoors", [("PlatformDoors", "train", "LPlatformDoors$Train;", true, 2), ("PlatformDoors", "platform", "LPlatformDoors$Platform;", true, 2), ("PlatformDoors", "stoodAt", "I", false, 0), ("PlatformDoors", "breachCount", "I", false, 0)]),
  ("PlatformDoors$Frame", [("PlatformDoors$Frame", "number", "I", false, 0), ("PlatformDoors$Frame", "echo", "I", false, 0), ("PlatformDoors$Frame", "state", "I", false, 0), ("PlatformDoors$Frame", "isolatedBits", "I", false, 0), ("PlatformDoors$Frame", "assured", "Z", false, 1), ("PlatformDoors$Frame", "commandIsOpen", "Z", false, 1)]),
  ("PlatformDoors$Leaf", [("PlatformDoors$Leaf", "contacts", "[I", true, 2), ("PlatformDoors$Leaf", "position", "I", false, 0), ("PlatformDoors$Leaf", "retries", "I", false, 0), ("PlatformDoors$Leaf", "reopening", "I", false, 0), ("PlatformDoors$Leaf", "obstructed", "I", false, 0), ("PlatformDoors$Leaf", "wantedOpen", "Z", false, 1), ("PlatformDoors$Leaf", "isolated", "Z", false, 1), ("PlatformDoors$Leaf", "released", "Z", false, 1), ("PlatformDoors$Leaf", "callsStaff", "Z", false, 1)]),
  ("PlatformDoors$Line", [("PlatformDoors$Line", "frames", "[LPlatformDoors$Frame;", true, 2), ("PlatformDoors$Line", "count", "I", false, 0)]),
  ("PlatformDoors$Platform", pm_side),
  ("PlatformDoors$Train", pm_side ++ [("PlatformDoors$Train", "place", "I", false, 0), ("PlatformDoors$Train", "speed", "I", false, 0), ("PlatformDoors$Train", "measuringError", "I", false, 0), ("PlatformDoors$Train", "stepsAtRest", "I", false, 0), ("PlatformDoors$Train", "commandIsOpen", "Z", false, 1)]),
  ("PlatformDoorsModel", [pm_mf "steps" "[I" 2, pm_mf "state" "[I" 2, pm_mf "warned" "[I" 2, pm_mf "opened" "[I" 2, pm_mf "has" "[Z" 2, pm_mf "taken" "[I" 2, pm_mf "many" "[I" 2, pm_mf "frames" "[I" 2, pm_mf "position" "[I" 2, pm_mf "isolated" "[Z" 2, pm_mf "released" "[Z" 2, pm_mf "wanted" "[Z" 2, pm_mf "staff" "[Z" 2, pm_mf "obstructed" "[I" 2, pm_mf "retries" "[I" 2, pm_mf "reopening" "[I" 2, pm_mf "contacts" "[I" 2, pm_mf "place" "I" 0, pm_mf "speed" "I" 0, pm_mf "error" "I" 0, pm_mf "still" "I" 0, pm_mf "command" "Z" 1, pm_mf "there" "I" 0, pm_mf "breaches" "I" 0])]
def pm_T (fs : List pm_Fd) : u_T := fun k => ((fs.getD k ("", "", "", false, 0)).1, (fs.getD k ("", "", "", false, 0)).2.1, (fs.getD k ("", "", "", false, 0)).2.2.1, (fs.getD k ("", "", "", false, 0)).2.2.2.1)
def pm_tl (fs : List pm_Fd) : List Nat := fs.map (fun q => q.2.2.2.2)
def pm_cl : List vw_C := pm_fd.map (fun q => (q.1, pm_T q.2, q.2.length))
def pm_fs0 (ci : Nat) : List pm_Fd := (pm_fd.getD ci ("", [])).2
abbrev pm_G : Type := va_G × (Nat → ClassId) × Nat × Nat
def pm_rz (z : Nat) (q : Option Nat) : Option Nat := q.map (fun k => z + k)
def pm_vl (z b : Nat) : pm_V → Value
  | .inl x => .int x
  | .inr (.inl w) => .int (bif w then 1 else 0)
  | .inr (.inr (.inl q)) => va_rf (pm_rz z q)
  | .inr (.inr (.inr _)) => .ref b
theorem pm_cat (z b : Nat) (v : pm_V) : (pm_vl z b v).category = 1 := by
  rcases v with x | w | (_ | q) | _ <;> rfl
def pm_sv (ty z : Nat) (x : Int32) (w : Bool) (r : Option Nat) : Value := match ty with
  | 0 => .int x
  | 1 => .int (bif w then 1 else 0)
  | _ => va_rf (pm_rz z r)
theorem pm_vl_get (z b ty k j : Nat) (u : pm_S) : pm_vl z b (pm_get ty k j u) = pm_sv ty z (u.2.1 k j) (u.2.2.1 k j) (u.2.2.2 k j) := by
  rcases ty with _ | _ | ty <;> rfl
def pm_fs (tl : List Nat) (z : Nat) (x : Nat → Int32) (w : Nat → Bool) (r : Nat → Option Nat) : List Value := (List.range tl.length).map (fun j => pm_sv (tl.getD j 0) z (x j) (w j) (r j))
def pm_ac (t z : Nat) (x : Nat → Int32) (w : Nat → Bool) (r : Nat → Option Nat) : (Nat → Int32) ⊕ (Nat → Int64) ⊕ (Nat → UInt32) ⊕ (Nat → UInt64) ⊕ (Nat → Option Nat) := match t with
  | 0 => .inl x
  | 1 => .inl (fun j => bif w j then 1 else 0)
  | _ => .inr (.inr (.inr (.inr (fun j => pm_rz z (r j)))))
def pm_cell (G : pm_G) (d : pm_Kd) (x : Nat → Int32) (w : Nat → Bool) (r : Nat → Option Nat) : va_E := match d with
  | .inl ci => .inr (ci, pm_fs (pm_tl (pm_fs0 ci)) G.2.2.1 x w r)
  | .inr (t, len) => .inl (G.2.1 t, len, pm_ac t G.2.2.1 x w r)
def pm_kx (k : Nat) : pm_Kd := (pm_kd k).getD (.inl 0)
def pm_ws (G : pm_G) (u : pm_S) : va_W := (List.range u.1).map (fun k => (G.2.2.1 + k, pm_cell G (pm_kx k) (u.2.1 k) (u.2.2.1 k) (u.2.2.2 k)))
/-- the heap holds the memory, and ends behind its last place -/
def pm_H (G : pm_G) (u : pm_S) (H : Heap) : Prop := H.size = G.2.2.1 + u.1 ∧ va_P G.1 pm_cl (pm_ws G u) H
def pm_A (G : pm_G) : Nat → Prop := fun q => G.2.2.1 ≤ q
theorem pm_ws_get {G : pm_G} {u : pm_S} {k : Nat} (h : k < u.1) : (pm_ws G u)[k]? = some (G.2.2.1 + k, pm_cell G (pm_kx k) (u.2.1 k) (u.2.2.1 k) (u.2.2.2 k)) := by
  unfold pm_ws
  rw [List.getElem?_map, List.getElem?_range h]
  rfl
theorem pm_ws_D {G : pm_G} {u : pm_S} : va_D (pm_A G) (pm_ws G u) := by
  have key : ∀ (k : Nat) (q : Nat × va_E), (pm_ws G u)[k]? = some q → q.1 = G.2.2.1 + k := by
    intro k q hk
    have hl : k < u.1 := by
      have := (List.getElem?_eq_some_iff.mp hk).1
      simpa [pm_ws] using this
    rw [pm_ws_get hl] at hk
    cases hk
    rfl
  refine ⟨fun i j p q hi hj hpq => ?_, fun k q hk => ?_⟩
  · have h1 := key i p hi
    have h2 := key j q hj
    omega
  · show G.2.2.1 ≤ q.1
    rw [key k q hk]
    omega
/-- a cell is written: the memory differs at that place alone -/
theorem pm_ws_set {G : pm_G} {u u' : pm_S} {k : Nat} {e : va_E} (hn : u'.1 = u.1) (he : pm_cell G (pm_kx k) (u'.2.1 k) (u'.2.2.1 k) (u'.2.2.2 k) = e) (hx : ∀ a, a ≠ k → u'.2.1 a = u.2.1 a) (hw : ∀ a, a ≠ k → u'.2.2.1 a = u.2.2.1 a) (hr : ∀ a, a ≠ k → u'.2.2.2 a = u.2.2.2 a) : (pm_ws G u).set k (G.2.2.1 + k, e) = pm_ws G u' := by
  apply List.ext_getElem?
  intro i
  rw [List.getElem?_set]
  by_cases hi : i < u.1
  · rw [pm_ws_get (u := u') (by omega)]
    by_cases hk : k = i
    · subst hk
      have hl : k < (pm_ws G u).length := by simpa [pm_ws] using hi
      rw [if_pos rfl, if_pos hl, he]
    · rw [if_neg hk, pm_ws_get hi, hx i (Ne.symm hk), hw i (Ne.symm hk), hr i (Ne.symm hk)]
  · have h1 : (pm_ws G u).length ≤ i := by simpa [pm_ws] using Nat.not_lt.mp hi
    have h2 : (pm_ws G u').length ≤ i := by simp [pm_ws]; omega
    rw [List.getElem?_eq_none h2]
    by_cases hk : k = i
    · subst hk
      rw [if_pos rfl, if_neg (by omega)]
    · rw [if_neg hk, List.getElem?_eq_none h1]
/-- a new place -/
theorem pm_ws_push {G : pm_G} {u u' : pm_S} {e : va_E} (hn : u'.1 = u.1 + 1) (he : pm_cell G (pm_kx u.1) (u'.2.1 u.1) (u'.2.2.1 u.1) (u'.2.2.2 u.1) = e) (hx : ∀ a, a ≠ u.1 → u'.2.1 a = u.2.1 a) (hw : ∀ a, a ≠ u.1 → u'.2.2.1 a = u.2.2.1 a) (hr : ∀ a, a ≠ u.1 → u'.2.2.2 a = u.2.2.2 a) : pm_ws G u ++ [(G.2.2.1 + u.1, e)] = pm_ws G u' := by
  apply List.ext_getElem?
  intro i
  have hlen : (pm_ws G u).length = u.1 := by simp [pm_ws]
  by_cases hi : i < u.1
  · rw [List.getElem?_append_left (by omega), pm_ws_get hi, pm_ws_get (u := u') (by omega), hx i (by omega), hw i (by omega), hr i (by omega)]
  · by_cases hk : i = u.1
    · subst hk
      rw [List.getElem?_append_right (by omega), hlen, Nat.sub_self, pm_ws_get (u := u') (by omega), he]
      rfl
    · have h2 : (pm_ws G u').length ≤ i := by simp [pm_ws]; omega
      rw [List.getElem?_eq_none h2, List.getElem?_eq_none (by simp [hlen]; omega)]
theorem pm_up_ne {α : Type} {x : Nat → Nat → α} {k j a : Nat} {v : α} (h : a ≠ k) : pm_up x k j v a = x a := by
  funext b
  have : Nat.beq a k = false := by
    cases hb : Nat.beq a k
    · rfl
    · exact absurd (Nat.eq_of_beq_eq_true hb) h
  simp [pm_up, this]
theorem pm_up_at {α : Type} {x : Nat → Nat → α} {k j b : Nat} {v : α} : pm_up x k j v k b = if b = j then v else x k b := by
  have h1 : Nat.beq k k = true := Nat.beq_refl k
  by_cases h : b = j
  · subst h
    simp [pm_up, h1, Nat.beq_refl]
  · have : Nat.beq b j = false := by
      cases hb : Nat.beq b j
      · rfl
      · exact absurd (Nat.eq_of_beq_eq_true hb) h
    simp [pm_up, h1, this, h]
theorem pm_up_eq {α : Type} {x : Nat → Nat → α} {k j a b : Nat} {v : α} : pm_up x k j v a b = if a = k ∧ b = j then v else x a b := by
  by_cases h : a = k
  · subst h
    rw [pm_up_at]
    by_cases hb : b = j
    · rw [if_pos hb, if_pos ⟨rfl, hb⟩]
    · rw [if_neg hb, if_neg (fun z => hb z.2)]
  · rw [pm_up_ne h, if_neg (fun z => h z.1)]
theorem pm_fz_ne {α : Type} {x : Nat → Nat → α} {k a : Nat} {v : α} (h : a ≠ k) : pm_fz x k v a = x a := by
  funext b
  have : Nat.beq a k = false := by
    cases hb : Nat.beq a k
    · rfl
    · exact absurd (Nat.eq_of_beq_eq_true hb) h
  simp [pm_fz, this]
theorem pm_fz_at {α : Type} {x : Nat → Nat → α} {k : Nat} {v : α} : pm_fz x k v k = fun _ => v := by
  funext b
  simp [pm_fz, Nat.beq_refl]
theorem pm_fs_get {tl : List Nat} {z : Nat} {x : Nat → Int32} {w : Nat → Bool} {r : Nat → Option Nat} {j : Nat} (h : j < tl.length) : (pm_fs tl z x w r)[j]? = some (pm_sv (tl.getD j 0) z (x j) (w j) (r j)) := by
  unfold pm_fs
  rw [List.getElem?_map, List.getElem?_range h]
  rfl
theorem pm_fs_len {tl : List Nat} {z : Nat} {x : Nat → Int32} {w : Nat → Bool} {r : Nat → Option Nat} : (pm_fs tl z x w r).length = tl.length := by simp [pm_fs]
theorem pm_fs_set {tl : List Nat} {z : Nat} {x x' : Nat → Int32} {w w' : Nat → Bool} {r r' : Nat → Option Nat} {j : Nat} {v : Value} (hj : j < tl.length) (hs : pm_sv (tl.getD j 0) z (x' j) (w' j) (r' j) = v) (hx : ∀ b, b ≠ j → x' b = x b) (hw : ∀ b, b ≠ j → w' b = w b) (hr : ∀ b, b ≠ j → r' b = r b) : (pm_fs tl z x w r).set j v = pm_fs tl z x' w' r' := by
  apply List.ext_getElem?
  intro i
  rw [List.getElem?_set]
  by_cases hi : i < tl.length
  · rw [pm_fs_get (x := x') hi]
    by_cases hk : j = i
    · subst hk
      rw [if_pos rfl, if_pos (by rw [pm_fs_len]; exact hi), hs]
    · rw [if_neg hk, pm_fs_get hi, hx i (Ne.symm hk), hw i (Ne.symm hk), hr i (Ne.symm hk)]
  · have h1 : (pm_fs tl z x w r).length ≤ i := by rw [pm_fs_len]; omega
    have h2 : (pm_fs tl z x' w' r').length ≤ i := by rw [pm_fs_len]; omega
    rw [List.getElem?_eq_none h2]
    by_cases hk : j = i
    · subst hk
      rw [if_pos rfl, if_neg (by omega)]
    · rw [if_neg hk, List.getElem?_eq_none h1]
/-! places by their kind -/
theorem pm_blt {a b : Nat} (h : Nat.blt a b = true) : a < b := Nat.le_of_ble_eq_true h
theorem pm_beq {a b : Nat} (h : Nat.beq a b = true) : a = b := Nat.eq_of_beq_eq_true h
theorem pm_cls_spec {n k ci : Nat} (h : pm_cls n k = some ci) : k < n ∧ pm_kd k = some (.inl ci) := by
  unfold pm_cls at h
  cases hb : Nat.blt k n with
  | false => rw [hb] at h; cases h
  | true =>
    rw [hb] at h
    refine ⟨pm_blt hb, ?_⟩
    revert h
    cases hk : pm_kd k with
    | none => intro h; cases h
    | some d =>
      rcases d with a | a
      · intro h
        simp at h
        rw [h]
      · intro h; cases h
theorem pm_arr_spec {n k : Nat} {a : Nat × Nat} (h : pm_arr n k = some a) : k < n ∧ pm_kd k = some (.inr a) := by
  unfold pm_arr at h
  cases hb : Nat.blt k n with
  | false => rw [hb] at h; cases h
  | true =>
    rw [hb] at h
    refine ⟨pm_blt hb, ?_⟩
    revert h
    cases hk : pm_kd k with
    | none => intro h; cases h
    | some d =>
      rcases d with a | a
      · intro h; cases h
      · intro h
        simp at h
        rw [h]
theorem pm_kx_of {k : Nat} {d : pm_Kd} (h : pm_kd k = some d) : pm_kx k = d := by
  unfold pm_kx
  rw [h]
  rfl
theorem pm_ib_in {i : Int32} {len : Nat} (h : pm_ib i len = true) : vp_in i len := by
  unfold pm_ib at h
  simp only [Bool.and_eq_true, Bool.not_eq_true', decide_eq_false_iff_not] at h
  intro q
  rcases q with q | q
  · exact h.1 q
  · have := pm_blt h.2
    omega

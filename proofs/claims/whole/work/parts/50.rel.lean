/-! The relation: pairs of slots that hold the same number; the rest is R2. -/
abbrev pm_Pr : Type := (Nat × Nat) × (Nat × Nat) × (Int32 × Int32)
def pm_lf : List (Nat × Nat) := [(32, 0), (34, 1), (36, 2), (38, 3), (40, 4), (42, 5), (44, 6), (46, 7), (51, 8), (53, 9), (55, 10), (57, 11), (59, 12), (61, 13), (63, 14), (65, 15)]
def pm_px : List pm_Pr := [((29, 9), (67, 17), (-2000000, 2000000)), ((29, 10), (67, 18), (0, 30000)), ((29, 11), (67, 19), (-1000, 1000)), ((0, 3), (67, 23), (-2147483648, 2147483647))] ++ pm_lf.flatMap (fun q => [((q.1, 1), (76, q.2), (0, 100)), ((q.1, 2), (82, q.2), (-2147483648, 2147483647)), ((q.1, 3), (83, q.2), (0, 41)), ((q.1, 4), (81, q.2), (0, 1000)), ((q.1 + 1, 0), (84, 2 * q.2), (0, 2)), ((q.1 + 1, 1), (84, 2 * q.2 + 1), (0, 2))])
def pm_pw : List ((Nat × Nat) × (Nat × Nat)) := [((29, 13), (67, 21))] ++ pm_lf.flatMap (fun q => [((q.1, 5), (79, q.2)), ((q.1, 6), (77, q.2)), ((q.1, 7), (78, q.2)), ((q.1, 8), (80, q.2))])
/-- a slot that stands in no pair -/
def pm_fx (k j : Nat) : Bool := pm_px.all (fun q => decide (q.1 ≠ (k, j)) && decide (q.2.1 ≠ (k, j)))
def pm_fw (k j : Nat) : Bool := pm_pw.all (fun q => decide (q.1 ≠ (k, j)) && decide (q.2 ≠ (k, j)))
def pm_R1 (x : Nat → Nat → Int32) : Prop := ∀ q ∈ pm_px, x q.1.1 q.1.2 = x q.2.1.1 q.2.1.2 ∧ q.2.2.1 ≤ x q.1.1 q.1.2 ∧ x q.1.1 q.1.2 ≤ q.2.2.2
def pm_B1 (w : Nat → Nat → Bool) : Prop := ∀ q ∈ pm_pw, w q.1.1 q.1.2 = w q.2.1 q.2.2
theorem pm_px_inj : ∀ q ∈ pm_px, ∀ r ∈ pm_px, (q.1 = r.1 ↔ q.2.1 = r.2.1) ∧ q.1 ≠ r.2.1 ∧ (q.1 = r.1 → q.2.2 = r.2.2) := by decide +kernel
theorem pm_pw_inj : ∀ q ∈ pm_pw, ∀ r ∈ pm_pw, (q.1 = r.1 ↔ q.2 = r.2) ∧ q.1 ≠ r.2 := by decide +kernel
theorem pm_upa {α : Type} {x : Nat → Nat → α} {p q : Nat × Nat} {v : α} : pm_up x p.1 p.2 v q.1 q.2 = if q = p then v else x q.1 q.2 := by
  rw [pm_up_eq]
  by_cases h : q = p
  · rw [if_pos h, if_pos ⟨congrArg Prod.fst h, congrArg Prod.snd h⟩]
  · rw [if_neg h, if_neg (fun g => h (Prod.ext g.1 g.2))]
theorem pm_R1_up {x : Nat → Nat → Int32} {p : pm_Pr} {v : Int32} (h : pm_R1 x) (hp : p ∈ pm_px) (h1 : p.2.2.1 ≤ v) (h2 : v ≤ p.2.2.2) : pm_R1 (pm_up (pm_up x p.1.1 p.1.2 v) p.2.1.1 p.2.1.2 v) := by
  intro q hq
  obtain ⟨i1, i2, i3⟩ := pm_px_inj q hq p hp
  obtain ⟨j1, j2, j3⟩ := pm_px_inj p hp q hq
  rw [pm_upa (q := q.1) (p := p.2.1), pm_upa (q := q.2.1) (p := p.2.1), pm_upa (q := q.1) (p := p.1), pm_upa (q := q.2.1) (p := p.1), if_neg i2]
  by_cases e : q.1 = p.1
  · rw [if_pos e, if_pos (i1.mp e), i3 e]
    exact ⟨rfl, h1, h2⟩
  · rw [if_neg e, if_neg (fun g => e (i1.mpr g)), if_neg (fun g => j2 g.symm)]
    exact h q hq
theorem pm_B1_up {w : Nat → Nat → Bool} {p : (Nat × Nat) × (Nat × Nat)} {v : Bool} (h : pm_B1 w) (hp : p ∈ pm_pw) : pm_B1 (pm_up (pm_up w p.1.1 p.1.2 v) p.2.1 p.2.2 v) := by
  intro q hq
  obtain ⟨i1, i2⟩ := pm_pw_inj q hq p hp
  obtain ⟨j1, j2⟩ := pm_pw_inj p hp q hq
  rw [pm_upa (q := q.1) (p := p.2), pm_upa (q := q.2) (p := p.2), pm_upa (q := q.1) (p := p.1), pm_upa (q := q.2) (p := p.1), if_neg i2]
  by_cases e : q.1 = p.1
  · rw [if_pos e, if_pos (i1.mp e)]
  · rw [if_neg e, if_neg (fun g => e (i1.mpr g)), if_neg (fun g => j2 g.symm)]
    exact h q hq
theorem pm_fx_ne {k j : Nat} {q : pm_Pr} (h : pm_fx k j = true) (hq : q ∈ pm_px) : q.1 ≠ (k, j) ∧ q.2.1 ≠ (k, j) := by
  have h1 := List.all_eq_true.mp h q hq
  simp only [Bool.and_eq_true, decide_eq_true_eq] at h1
  exact h1
theorem pm_fw_ne {k j : Nat} {q : (Nat × Nat) × (Nat × Nat)} (h : pm_fw k j = true) (hq : q ∈ pm_pw) : q.1 ≠ (k, j) ∧ q.2 ≠ (k, j) := by
  have h1 := List.all_eq_true.mp h q hq
  simp only [Bool.and_eq_true, decide_eq_true_eq] at h1
  exact h1
theorem pm_fx_up {x : Nat → Nat → Int32} {p : pm_Pr} {v : Int32} (hp : p ∈ pm_px) {k j : Nat} (h : pm_fx k j = true) : pm_up (pm_up x p.1.1 p.1.2 v) p.2.1.1 p.2.1.2 v k j = x k j := by
  have hn := pm_fx_ne h hp
  refine (pm_upa (q := (k, j))).trans ?_
  rw [if_neg (fun g => hn.2 g.symm)]
  refine (pm_upa (q := (k, j))).trans ?_
  rw [if_neg (fun g => hn.1 g.symm)]
theorem pm_fw_up {w : Nat → Nat → Bool} {p : (Nat × Nat) × (Nat × Nat)} {v : Bool} (hp : p ∈ pm_pw) {k j : Nat} (h : pm_fw k j = true) : pm_up (pm_up w p.1.1 p.1.2 v) p.2.1 p.2.2 v k j = w k j := by
  have hn := pm_fw_ne h hp
  refine (pm_upa (q := (k, j))).trans ?_
  rw [if_neg (fun g => hn.2 g.symm)]
  refine (pm_upa (q := (k, j))).trans ?_
  rw [if_neg (fun g => hn.1 g.symm)]
/-- what the rest must grant: it sees no slot of a pair, and it goes up in n -/
def pm_C2 (R2 : pm_Iv) : Prop := ∀ n x w f x' w', (∀ k j, pm_fx k j = true → x' k j = x k j) → (∀ k j, pm_fw k j = true → w' k j = w k j) → R2 n x w f → R2 (n + 1) x' w' f
def pm_I (R2 : pm_Iv) : pm_Iv := fun n x w f => pm_R1 x ∧ pm_B1 w ∧ R2 n x w f
section PMR
variable {R2 : pm_Iv} {sc : pm_Sc} {n : Nat} {x : Nat → Nat → Int32} {w : Nat → Nat → Bool} {f : Nat → Nat → Nat}
theorem pm_I_mo (hc : pm_C2 R2) (h : pm_I R2 n x w f) : pm_I R2 (n + 1) x w f := ⟨h.1, h.2.1, hc n x w f x w (fun _ _ _ => rfl) (fun _ _ _ => rfl) h.2.2⟩
theorem pm_I_x (hc : pm_C2 R2) (h : pm_I R2 n x w f) {p : pm_Pr} {v : Int32} (hp : p ∈ pm_px) (h1 : p.2.2.1 ≤ v) (h2 : v ≤ p.2.2.2) : pm_I R2 (n + 1) (pm_up (pm_up x p.1.1 p.1.2 v) p.2.1.1 p.2.1.2 v) w f := ⟨pm_R1_up h.1 hp h1 h2, h.2.1, hc n x w f _ w (fun _ _ g => pm_fx_up hp g) (fun _ _ _ => rfl) h.2.2⟩
theorem pm_I_w (hc : pm_C2 R2) (h : pm_I R2 n x w f) {p : (Nat × Nat) × (Nat × Nat)} {v : Bool} (hp : p ∈ pm_pw) : pm_I R2 (n + 1) x (pm_up (pm_up w p.1.1 p.1.2 v) p.2.1 p.2.2 v) f := ⟨h.1, pm_B1_up h.2.1 hp, hc n x w f x _ (fun _ _ _ => rfl) (fun _ _ g => pm_fw_up hp g) h.2.2⟩
theorem pm_go_of {c : Nat → List pm_V → pm_S → Option pm_Rs} {I : pm_Iv} {mc mr : Nat} {av : List pm_V} {v : Int32} {x1 x2 : Nat → Nat → Int32} {w1 w2 : Nat → Nat → Bool} {q1 q2 : Int32 × (Nat → Nat → Int32) × (Nat → Nat → Bool)} (z1 : c mc (pm_r 0 :: av) (pm_u x w f) = some (pm_h1 f q1)) (e1 : q1 = (v, x1, w1)) (z2 : c mr (pm_r 67 :: av) (pm_u x1 w1 f) = some (pm_h1 f q2)) (e2 : q2 = (v, x2, w2)) (hI : I (n + 1) x2 w2 f) : ∃ (v : Int32) (x1 : Nat → Nat → Int32) (w1 : Nat → Nat → Bool) (f1 : Nat → Nat → Nat) (x2 : Nat → Nat → Int32) (w2 : Nat → Nat → Bool) (f2 : Nat → Nat → Nat), c mc (pm_r 0 :: av) (pm_u x w f) = some (some (.inl v), pm_u x1 w1 f1) ∧ c mr (pm_r 67 :: av) (pm_u x1 w1 f1) = some (some (.inl v), pm_u x2 w2 f2) ∧ I (n + 1) x2 w2 f2 :=
  ⟨v, x1, w1, f, x2, w2, f, by rw [z1, e1]; rfl, by rw [z2, e2]; rfl, hI⟩
theorem pm_q71_t {a lo hi : Int32} (h1 : ¬ a < lo) (h2 : ¬ hi < a) : q71 a lo hi x w f = true := by
  unfold q71
  rw [if_neg h1, if_neg h2]
theorem pm_q71_f {a lo hi : Int32} (h : a < lo ∨ hi < a) : ¬ q71 a lo hi x w f = true := by
  unfold q71
  intro g
  rcases h with h | h
  · rw [if_pos h] at g
    cases g
  · by_cases h1 : a < lo
    · rw [if_pos h1] at g
      cases g
    · rw [if_neg h1, if_pos h] at g
      cases g
theorem pm_g50 (hc : pm_C2 R2) (a : Int32) : pm_Go (pm_call pm_Tf sc 7) (pm_I R2) 50 94 [.inl a] := by
  intro n x w f _ h
  have z1 := z50 (sc := sc) 6 a x w f
  by_cases h1 : a < -1000
  · refine pm_go_of z1 (by unfold q50; rw [if_neg (pm_q71_f (Or.inl h1))]) (z94 (sc := sc) 7 a x w f) (by unfold q94; rw [if_pos h1]) (pm_I_mo hc h)
  · by_cases h2 : 1000 < a
    · refine pm_go_of z1 (by unfold q50; rw [if_neg (pm_q71_f (Or.inr h2))]) (z94 (sc := sc) 7 a x w f) (by unfold q94; rw [if_neg h1, if_neg (Int32.not_le.mpr h2)]) (pm_I_mo hc h)
    · have e := (h.1 ((29, 11), (67, 19), (-1000, 1000)) (by decide +kernel)).1
      refine pm_go_of z1 (by unfold q50; rw [if_pos (pm_q71_t h1 h2)]) (z94 (sc := sc) 7 a (pm_up x 29 11 a) w f) (x2 := pm_up (pm_up x 29 11 a) 67 19 a) (w2 := w) ?_ (pm_I_x hc h (p := ((29, 11), (67, 19), (-1000, 1000))) (by decide +kernel) (Int32.not_lt.mp h1) (Int32.not_lt.mp h2))
      unfold q94
      rw [if_neg h1, if_pos (Int32.not_lt.mp h2)]
      show (x 67 19, _, _) = (x 29 11, _, _)
      rw [show x 29 11 = x 67 19 from e]
theorem pm_g51 (hc : pm_C2 R2) (b : Bool) : pm_Gb (pm_call pm_Tf sc 7) (pm_I R2) 51 95 [pm_bi b] := by
  intro n x w f _ h
  have e : w 29 13 = w 67 21 := h.2.1 ((29, 13), (67, 21)) (by decide +kernel)
  refine ⟨w 29 13, x, pm_up w 29 13 b, f, x, pm_up (pm_up w 29 13 b) 67 21 b, f, z51 (sc := sc) 7 b x w f, ?_, pm_I_w hc h (p := ((29, 13), (67, 21))) (by decide +kernel)⟩
  rw [e]
  exact z95 (sc := sc) 7 b x (pm_up w 29 13 b) f
theorem pm_g63 (hc : pm_C2 R2) : pm_Go (pm_call pm_Tf sc 7) (pm_I R2) 63 110 [] := by
  intro n x w f _ h
  have e : x 0 3 = x 67 23 := (h.1 ((0, 3), (67, 23), (-2147483648, 2147483647)) (by decide +kernel)).1
  refine ⟨x 0 3, x, w, f, x, w, f, z63 (sc := sc) 7 x w f, ?_, pm_I_mo hc h⟩
  rw [e]
  exact z110 (sc := sc) 7 x w f
end PMR

/-! A leaf of the class and the reference's numbers of it. -/
section PMR
variable {R2 : pm_Iv} {sc : pm_Sc} {x : Nat → Nat → Int32} {w : Nat → Nat → Bool} {f : Nat → Nat → Nat} {k r : Nat}
theorem pm_lx {p : pm_Pr} (hk : (k, r) ∈ pm_lf) (hp : p ∈ ([((k, 1), (76, r), (0, 100)), ((k, 2), (82, r), (-2147483648, 2147483647)), ((k, 3), (83, r), (0, 41)), ((k, 4), (81, r), (0, 1000)), ((k + 1, 0), (84, 2 * r), (0, 2)), ((k + 1, 1), (84, 2 * r + 1), (0, 2))] : List pm_Pr)) : p ∈ pm_px := List.mem_append_right _ (List.mem_flatMap.mpr ⟨(k, r), hk, hp⟩)
theorem pm_lw {p : (Nat × Nat) × (Nat × Nat)} (hk : (k, r) ∈ pm_lf) (hp : p ∈ ([((k, 5), (79, r)), ((k, 6), (77, r)), ((k, 7), (78, r)), ((k, 8), (80, r))] : List ((Nat × Nat) × (Nat × Nat)))) : p ∈ pm_pw := List.mem_append_right _ (List.mem_flatMap.mpr ⟨(k, r), hk, hp⟩)
theorem pm_f1 (h : pm_R1 x) (hk : (k, r) ∈ pm_lf) : x k 1 = x 76 r ∧ 0 ≤ x k 1 ∧ x k 1 ≤ 100 := h ((k, 1), (76, r), (0, 100)) (pm_lx hk List.mem_cons_self)
theorem pm_f2 (h : pm_R1 x) (hk : (k, r) ∈ pm_lf) : x k 2 = x 82 r := (h ((k, 2), (82, r), (-2147483648, 2147483647)) (pm_lx hk (List.mem_cons_of_mem _ List.mem_cons_self))).1
theorem pm_f3 (h : pm_R1 x) (hk : (k, r) ∈ pm_lf) : x k 3 = x 83 r ∧ 0 ≤ x k 3 ∧ x k 3 ≤ 41 := h ((k, 3), (83, r), (0, 41)) (pm_lx hk (List.mem_cons_of_mem _ (List.mem_cons_of_mem _ List.mem_cons_self)))
theorem pm_f4 (h : pm_R1 x) (hk : (k, r) ∈ pm_lf) : x k 4 = x 81 r ∧ 0 ≤ x k 4 ∧ x k 4 ≤ 1000 := h ((k, 4), (81, r), (0, 1000)) (pm_lx hk (List.mem_cons_of_mem _ (List.mem_cons_of_mem _ (List.mem_cons_of_mem _ List.mem_cons_self))))
theorem pm_f5 (h : pm_R1 x) (hk : (k, r) ∈ pm_lf) : x (k + 1) 0 = x 84 (2 * r) ∧ 0 ≤ x (k + 1) 0 ∧ x (k + 1) 0 ≤ 2 := h ((k + 1, 0), (84, 2 * r), (0, 2)) (pm_lx hk (List.mem_cons_of_mem _ (List.mem_cons_of_mem _ (List.mem_cons_of_mem _ (List.mem_cons_of_mem _ List.mem_cons_self)))))
theorem pm_f6 (h : pm_R1 x) (hk : (k, r) ∈ pm_lf) : x (k + 1) 1 = x 84 (2 * r + 1) ∧ 0 ≤ x (k + 1) 1 ∧ x (k + 1) 1 ≤ 2 := h ((k + 1, 1), (84, 2 * r + 1), (0, 2)) (pm_lx hk (List.mem_cons_of_mem _ (List.mem_cons_of_mem _ (List.mem_cons_of_mem _ (List.mem_cons_of_mem _ (List.mem_cons_of_mem _ List.mem_cons_self))))))
theorem pm_b5 (h : pm_B1 w) (hk : (k, r) ∈ pm_lf) : w k 5 = w 79 r := h ((k, 5), (79, r)) (pm_lw hk List.mem_cons_self)
theorem pm_b6 (h : pm_B1 w) (hk : (k, r) ∈ pm_lf) : w k 6 = w 77 r := h ((k, 6), (77, r)) (pm_lw hk (List.mem_cons_of_mem _ List.mem_cons_self))
theorem pm_b7 (h : pm_B1 w) (hk : (k, r) ∈ pm_lf) : w k 7 = w 78 r := h ((k, 7), (78, r)) (pm_lw hk (List.mem_cons_of_mem _ (List.mem_cons_of_mem _ List.mem_cons_self)))
theorem pm_b8 (h : pm_B1 w) (hk : (k, r) ∈ pm_lf) : w k 8 = w 80 r := h ((k, 8), (80, r)) (pm_lw hk (List.mem_cons_of_mem _ (List.mem_cons_of_mem _ (List.mem_cons_of_mem _ List.mem_cons_self))))
theorem pm_e10 (h : pm_R1 x) (hb : pm_B1 w) (hk : (k, r) ∈ pm_lf) : q10 k x w f = q79 r x w f := by
  unfold q10 q79
  rw [(pm_f1 h hk).1, pm_b5 hb hk, pm_b7 hb hk]
theorem pm_e12 {a : Int32} {n : Nat} {b : Bool} (e : a = x 84 n) (h0 : 0 ≤ a) (h2 : a ≤ 2) : q12 a b x w f = q80 n b x w f := by
  unfold q12 q80
  rw [← e]
  obtain ⟨j, hj, e2⟩ := nI_of2 (M := 2) (n := 2) (by decide) (Int32.not_lt.mpr h0) h2
  have c : j = 0 ∨ j = 1 ∨ j = 2 := by omega
  have c0 : nI 0 = 0 := by decide
  have c1 : nI 1 = 1 := by decide
  have c2 : nI 2 = 2 := by decide
  rw [e2]
  rcases c with rfl | rfl | rfl
  · rw [c0]; cases b <;> decide
  · rw [c1]; cases b <;> decide
  · rw [c2]; cases b <;> decide
theorem pm_e11 (h : pm_R1 x) (hb : pm_B1 w) (hk : (k, r) ∈ pm_lf) : q11 k x w f = q81 r x w f := by
  unfold q11 q81
  obtain ⟨a1, a2, a3⟩ := pm_f5 h hk
  obtain ⟨b1, b2, b3⟩ := pm_f6 h hk
  rw [pm_e10 h hb hk, pm_e12 a1 a2 a3, pm_e12 b1 b2 b3]
theorem pm_lf0 : ∀ i, i < 8 → (32 + 2 * i, 0 + i) ∈ pm_lf := by decide +kernel
theorem pm_lf1 : ∀ i, i < 8 → (51 + 2 * i, 8 + i) ∈ pm_lf := by decide +kernel
theorem pm_e600 {i : Nat} {e : Int32} (h : pm_R1 x) (hb : pm_B1 w) (hi : i < 8) (ha : q69 0 x w f = true) (hl : q70 (Int32.ofNat i) x w f = true) : q600 i e x w f = q1070 i e x w f := by
  have hk := pm_lf0 i hi
  unfold q600 q1070 q13 q72
  rw [if_pos ha, if_pos hl, if_neg (pm_q96_g ha hl), pm_e10 h hb hk, pm_e11 h hb hk, (pm_f1 h hk).1, pm_f2 h hk, (pm_f3 h hk).1, (pm_f4 h hk).1, pm_b5 hb hk, pm_b8 hb hk]
theorem pm_e601 {i : Nat} {e : Int32} (h : pm_R1 x) (hb : pm_B1 w) (hi : i < 8) (ha : q69 1 x w f = true) (hl : q70 (Int32.ofNat i) x w f = true) : q601 i e x w f = q1071 i e x w f := by
  have hk := pm_lf1 i hi
  unfold q601 q1071 q13 q72
  rw [if_pos ha, if_pos hl, if_neg (pm_q96_g ha hl), pm_e10 h hb hk, pm_e11 h hb hk, (pm_f1 h hk).1, pm_f2 h hk, (pm_f3 h hk).1, (pm_f4 h hk).1, pm_b5 hb hk, pm_b8 hb hk]
theorem pm_gr_of {n : Nat} {c : Nat → List pm_V → pm_S → Option pm_Rs} {I : pm_Iv} {mc mr : Nat} {av : List pm_V} {a b : Int32} (z1 : c mc (pm_r 0 :: av) (pm_u x w f) = some (pm_g1 x w f a)) (z2 : c mr (pm_r 67 :: av) (pm_u x w f) = some (pm_g1 x w f b)) (e : a = b) (hI : I (n + 1) x w f) : ∃ (v : Int32) (x1 : Nat → Nat → Int32) (w1 : Nat → Nat → Bool) (f1 : Nat → Nat → Nat) (x2 : Nat → Nat → Int32) (w2 : Nat → Nat → Bool) (f2 : Nat → Nat → Nat), c mc (pm_r 0 :: av) (pm_u x w f) = some (some (.inl v), pm_u x1 w1 f1) ∧ c mr (pm_r 67 :: av) (pm_u x1 w1 f1) = some (some (.inl v), pm_u x2 w2 f2) ∧ I (n + 1) x2 w2 f2 :=
  ⟨a, x, w, f, x, w, f, z1, by rw [z2, e]; rfl, hI⟩
theorem pm_g60 (hc : pm_C2 R2) (a l b : Int32) : pm_Go (pm_call pm_Tf sc 7) (pm_I R2) 60 107 [.inl a, .inl l, .inl b] := by
  intro n x w f _ h
  by_cases ha : q69 a x w f = true
  · rcases pm_q69_c ha with rfl | rfl
    · by_cases hl : q70 l x w f = true
      · obtain ⟨i, hi, rfl⟩ := pm_q70_c hl
        exact pm_gr_of (z600 (sc := sc) 4 i b x w f hi) (z1070 (sc := sc) 5 i b x w f hi) (pm_e600 h.1 h.2.1 hi ha hl) (pm_I_mo hc h)
      · exact pm_gr_of (z600l (sc := sc) 4 l b x w f hl) (z107s (sc := sc) 5 0 l b x w f (pm_q96_l hl)) (by unfold q600l; rw [if_pos ha]; rfl) (pm_I_mo hc h)
    · by_cases hl : q70 l x w f = true
      · obtain ⟨i, hi, rfl⟩ := pm_q70_c hl
        exact pm_gr_of (z601 (sc := sc) 4 i b x w f hi) (z1071 (sc := sc) 5 i b x w f hi) (pm_e601 h.1 h.2.1 hi ha hl) (pm_I_mo hc h)
      · exact pm_gr_of (z601l (sc := sc) 4 l b x w f hl) (z107s (sc := sc) 5 1 l b x w f (pm_q96_l hl)) (by unfold q601l; rw [if_pos ha]; rfl) (pm_I_mo hc h)
  · exact pm_gr_of (z60s (sc := sc) 4 a l b x w f ha) (z107s (sc := sc) 5 a l b x w f (pm_q96_s ha)) rfl (pm_I_mo hc h)
end PMR

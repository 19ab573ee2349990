/-! The lines: a frame of the class against six numbers of the reference. -/
def pm_Fr (x : Nat → Nat → Int32) (w : Nat → Nat → Bool) (q t : Nat) : Prop := x q 0 = x 75 (t + 0) ∧ x q 1 = x 75 (t + 1) ∧ x q 2 = x 75 (t + 2) ∧ x q 3 = x 75 (t + 3) ∧ x 75 (t + 4) = (if w q 4 = true then 1 else 0) ∧ x 75 (t + 5) = (if w q 5 = true then 1 else 0) ∧ 0 < x q 0
def pm_Li (p s t0 : Nat) (x : Nat → Nat → Int32) (w : Nat → Nat → Bool) (f : Nat → Nat → Nat) : Prop := ∃ c, c ≤ 12 ∧ x p 1 = Int32.ofNat c ∧ x 74 s = Int32.ofNat c ∧ ∀ j, j < c → pm_Fr x w (f s j) (t0 + 6 * j)
/-- the frames of a line are apart -/
def pm_fi (f : Nat → Nat → Nat) : Prop := ∀ s i j, i < 12 → j < 12 → s < 2 → f s i = f s j → i = j
def pm_Ls (x : Nat → Nat → Int32) (w : Nat → Nat → Bool) (f : Nat → Nat → Nat) : Prop := pm_ff f ∧ pm_Li 1 0 0 x w f ∧ pm_Li 15 1 72 x w f ∧ pm_fi f
def pm_Hl (R2 : pm_Iv) : Prop := ∀ n x w f, R2 n x w f → pm_Ls x w f
theorem pm_q4_m {x : Nat → Nat → Int32} {w : Nat → Nat → Bool} {f : Nat → Nat → Nat} {q t m : Nat} (h : pm_Fr x w q t) (hm : m < 6) : q4 q (Int32.ofNat m) x w f = x 75 (t + m) := by
  obtain ⟨h0, h1, h2, h3, h4, h5, -⟩ := h
  have c : m = 0 ∨ m = 1 ∨ m = 2 ∨ m = 3 ∨ m = 4 ∨ m = 5 := by omega
  unfold q4 q72
  rcases c with rfl | rfl | rfl | rfl | rfl | rfl
  · rw [if_pos (by decide), h0]
  · rw [if_neg (by decide), if_pos (by decide), h1]
  · rw [if_neg (by decide), if_neg (by decide), if_pos (by decide), h2]
  · rw [if_neg (by decide), if_neg (by decide), if_neg (by decide), if_pos (by decide), h3]
  · rw [if_neg (by decide), if_neg (by decide), if_neg (by decide), if_neg (by decide), if_pos (by decide), h4]
  · rw [if_neg (by decide), if_neg (by decide), if_neg (by decide), if_neg (by decide), if_neg (by decide), if_pos (by decide), h5]
theorem pm_q4_b {x : Nat → Nat → Int32} {w : Nat → Nat → Bool} {f : Nat → Nat → Nat} {q : Nat} {e : Int32} (he : e < 0 ∨ ¬ e ≤ 5) : q4 q e x w f = -1 := by
  have h : ∀ k : Int32, (0 : Int32) ≤ k → k ≤ 5 → ¬ e = k := by
    intro k h1 h2 h3
    rw [h3] at he
    rcases he with g | g
    · exact absurd g (Int32.not_lt.mpr h1)
    · exact g h2
  unfold q4
  rw [if_neg (h 0 (by decide) (by decide)), if_neg (h 1 (by decide) (by decide)), if_neg (h 2 (by decide) (by decide)), if_neg (h 3 (by decide) (by decide)), if_neg (h 4 (by decide) (by decide)), if_neg (h 5 (by decide) (by decide))]
theorem pm_uw0 {x : Nat → Nat → Int32} {w : Nat → Nat → Bool} {f : Nat → Nat → Nat} {c : Nat} {e : Int32} (hc : c ≤ 12) (hx : x 1 1 = Int32.ofNat c) : (∃ j, j < c ∧ e = Int32.ofNat j) ∨ (¬ q680 e x w f = true ∧ ∀ y v g, y 74 0 = Int32.ofNat c → q1010 e y v g = true) := by
  by_cases h0 : e < 0
  · refine Or.inr ⟨?_, fun y v g hy => ?_⟩
    · unfold q680
      rw [if_pos (show q69 0 x w f = true from pm_q71_t (by decide) (by decide)), if_neg (pm_q71_f (Or.inl h0))]
      exact Bool.false_ne_true
    · unfold q1010
      rw [if_pos h0]
      cases q91 0 y v g <;> rfl
  · obtain ⟨j, hj, rfl⟩ := nI_of h0
    by_cases hjc : j < c
    · exact Or.inl ⟨j, hjc, rfl⟩
    · refine Or.inr ⟨?_, fun y v g hy => ?_⟩
      · have hlt : x 1 1 - 1 < nI j := by
          rw [hx]
          rcases c with _ | c
          · exact Int32.lt_of_lt_of_le (by decide : Int32.ofNat 0 - 1 < 0) (nI_pos' hj)
          · rw [show Int32.ofNat (c + 1) - 1 = nI c from nI_pred c]
            exact nI_lt (by omega) hj
        unfold q680
        rw [if_pos (show q69 0 x w f = true from pm_q71_t (by decide) (by decide)), if_neg (pm_q71_f (Or.inr hlt))]
        exact Bool.false_ne_true
      · unfold q1010
        rw [if_neg h0, hy, if_neg (show ¬ nI j < Int32.ofNat c from nI_nlt (by omega) hj)]
        cases q91 0 y v g <;> rfl
theorem pm_uw1 {x : Nat → Nat → Int32} {w : Nat → Nat → Bool} {f : Nat → Nat → Nat} {c : Nat} {e : Int32} (hc : c ≤ 12) (hx : x 15 1 = Int32.ofNat c) : (∃ j, j < c ∧ e = Int32.ofNat j) ∨ (¬ q681 e x w f = true ∧ ∀ y v g, y 74 1 = Int32.ofNat c → q1011 e y v g = true) := by
  by_cases h0 : e < 0
  · refine Or.inr ⟨?_, fun y v g hy => ?_⟩
    · unfold q681
      rw [if_pos (show q69 1 x w f = true from pm_q71_t (by decide) (by decide)), if_neg (pm_q71_f (Or.inl h0))]
      exact Bool.false_ne_true
    · unfold q1011
      rw [if_pos h0]
      cases q91 1 y v g <;> rfl
  · obtain ⟨j, hj, rfl⟩ := nI_of h0
    by_cases hjc : j < c
    · exact Or.inl ⟨j, hjc, rfl⟩
    · refine Or.inr ⟨?_, fun y v g hy => ?_⟩
      · have hlt : x 15 1 - 1 < nI j := by
          rw [hx]
          rcases c with _ | c
          · exact Int32.lt_of_lt_of_le (by decide : Int32.ofNat 0 - 1 < 0) (nI_pos' hj)
          · rw [show Int32.ofNat (c + 1) - 1 = nI c from nI_pred c]
            exact nI_lt (by omega) hj
        unfold q681
        rw [if_pos (show q69 1 x w f = true from pm_q71_t (by decide) (by decide)), if_neg (pm_q71_f (Or.inr hlt))]
        exact Bool.false_ne_true
      · unfold q1011
        rw [if_neg h0, hy, if_neg (show ¬ nI j < Int32.ofNat c from nI_nlt (by omega) hj)]
        cases q91 1 y v g <;> rfl
theorem pm_q91_s {x y : Nat → Nat → Int32} {w v : Nat → Nat → Bool} {f g : Nat → Nat → Nat} {a : Int32} (h : ¬ q69 a x w f = true) : q91 a y v g = true := by
  unfold q91
  rcases pm_q71_n h with h1 | ⟨h1, h2⟩
  · rw [if_pos h1]
  · rw [if_neg h1, if_neg (Int32.not_le.mpr h2)]
section PMR
variable {R2 : pm_Iv} {sc : pm_Sc}
theorem pm_g59 (hc : pm_C2 R2) (hh : pm_Hl R2) (a b e : Int32) : pm_Go (pm_call pm_Tf sc 7) (pm_I R2) 59 106 [.inl a, .inl b, .inl e] := by
  intro n x w f _ h
  obtain ⟨hf, l0, l1, hfi⟩ := hh _ _ _ _ h.2.2
  by_cases ha : q69 a x w f = true
  · rcases pm_q69_c ha with rfl | rfl
    · obtain ⟨c, h12, hx, hy, hF⟩ := l0
      rcases pm_uw0 (w := w) (f := f) (e := b) h12 hx with ⟨j, hj, rfl⟩ | ⟨h1, h2⟩
      · obtain ⟨n', rfl⟩ : ∃ n', c = n' + 1 := ⟨c - 1, by omega⟩
        have z1 := zfrm0 (sc := sc) 4 x w f n' j hx (by omega) (by omega) hf e
        by_cases he : e < 0 ∨ ¬ e ≤ 5
        · exact pm_gr_of z1 (zmfb0 (sc := sc) 5 x w f n' j hy (by omega) (by omega) e he) (pm_q4_b he) (pm_I_mo hc h)
        · have g1 : ¬ e < 0 := fun g => he (Or.inl g)
          have g2 : e ≤ 5 := by
            by_cases g : e ≤ 5
            · exact g
            · exact absurd (Or.inr g) he
          obtain ⟨m, hm, rfl⟩ := nI_of2 (M := 5) (n := 5) (by decide) g1 g2
          exact pm_gr_of z1 (zmfr0 (sc := sc) 5 x w f n' j hy (by omega) (by omega) m (by omega)) (pm_q4_m (hF j (by omega)) (by omega)) (pm_I_mo hc h)
      · exact pm_gr_of (z590u (sc := sc) 4 b e x w f h1) (z1060u (sc := sc) 5 b e x w f (h2 x w f hy)) rfl (pm_I_mo hc h)
    · obtain ⟨c, h12, hx, hy, hF⟩ := l1
      rcases pm_uw1 (w := w) (f := f) (e := b) h12 hx with ⟨j, hj, rfl⟩ | ⟨h1, h2⟩
      · obtain ⟨n', rfl⟩ : ∃ n', c = n' + 1 := ⟨c - 1, by omega⟩
        have z1 := zfrm1 (sc := sc) 4 x w f n' j hx (by omega) (by omega) hf e
        by_cases he : e < 0 ∨ ¬ e ≤ 5
        · exact pm_gr_of z1 (zmfb1 (sc := sc) 5 x w f n' j hy (by omega) (by omega) e he) (pm_q4_b he) (pm_I_mo hc h)
        · have g1 : ¬ e < 0 := fun g => he (Or.inl g)
          have g2 : e ≤ 5 := by
            by_cases g : e ≤ 5
            · exact g
            · exact absurd (Or.inr g) he
          obtain ⟨m, hm, rfl⟩ := nI_of2 (M := 5) (n := 5) (by decide) g1 g2
          exact pm_gr_of z1 (zmfr1 (sc := sc) 5 x w f n' j hy (by omega) (by omega) m (by omega)) (pm_q4_m (hF j (by omega)) (by omega)) (pm_I_mo hc h)
      · exact pm_gr_of (z591u (sc := sc) 4 b e x w f h1) (z1061u (sc := sc) 5 b e x w f (h2 x w f hy)) rfl (pm_I_mo hc h)
  · exact pm_gr_of (z59s (sc := sc) 4 a b e x w f ha Bool.false_ne_true) (z106s (sc := sc) 5 a b e x w f (pm_q91_s ha) rfl) rfl (pm_I_mo hc h)
end PMR

/-! told and mayGo: what the sides hold of themselves and of each other. -/
def pm_N (Q s t : Nat) (x : Nat → Nat → Int32) (w : Nat → Nat → Bool) : Prop := (w 72 s = true ∧ x Q 0 = x 73 t ∧ x Q 1 = x 73 (t + 1) ∧ x Q 2 = x 73 (t + 2) ∧ x Q 3 = x 73 (t + 3) ∧ x 73 (t + 4) = (if w Q 4 = true then 1 else 0) ∧ x 73 (t + 5) = (if w Q 5 = true then 1 else 0)) ∨ (w 72 s = false ∧ x Q 0 = 0 ∧ x Q 1 = 0 ∧ x Q 2 = 0 ∧ x Q 3 = 0 ∧ w Q 4 = false ∧ w Q 5 = false)
def pm_Sd (x : Nat → Nat → Int32) (w : Nat → Nat → Bool) : Prop := x 29 4 = x 68 0 ∧ x 48 4 = x 68 1 ∧ x 29 5 = x 69 0 ∧ x 48 5 = x 69 1 ∧ x 29 8 = x 71 0 ∧ x 48 8 = x 71 1 ∧ x 1 1 = x 74 0 ∧ x 15 1 = x 74 1 ∧ (x 29 12 < 20 ↔ x 67 20 < 20) ∧ pm_N 31 0 0 x w ∧ pm_N 50 1 6 x w
def pm_Hs (R2 : pm_Iv) : Prop := ∀ n x w f, R2 n x w f → pm_Sd x w
theorem pm_e820 {x : Nat → Nat → Int32} {w : Nat → Nat → Bool} {f : Nat → Nat → Nat} : q820 x w f = (((((((((0 : Int32) + (q72 (q81 0 x w f) x w f)) + (q72 (q81 1 x w f) x w f)) + (q72 (q81 2 x w f) x w f)) + (q72 (q81 3 x w f) x w f)) + (q72 (q81 4 x w f) x w f)) + (q72 (q81 5 x w f) x w f)) + (q72 (q81 6 x w f) x w f)) + (q72 (q81 7 x w f) x w f)) := by
  have h7 : ∀ v0 v1 v2 : Int32, q820_32_7 v0 v1 v2 x w f = v2 + v1 := fun _ _ _ => rfl
  have h6 : ∀ v0 v1 v2 : Int32, q820_32_6 v0 v1 v2 x w f = ((v2 + v1) + (q72 (q81 7 x w f) x w f)) := by
    intro v0 v1 v2
    unfold q820_32_6
    by_cases g : q81 7 x w f = true
    · rw [if_pos g, h7, show q72 (q81 7 x w f) x w f = 1 from if_pos g]
    · rw [if_neg g, h7, show q72 (q81 7 x w f) x w f = 0 from if_neg g]
  have h5 : ∀ v0 v1 v2 : Int32, q820_32_5 v0 v1 v2 x w f = (((v2 + v1) + (q72 (q81 6 x w f) x w f)) + (q72 (q81 7 x w f) x w f)) := by
    intro v0 v1 v2
    unfold q820_32_5
    by_cases g : q81 6 x w f = true
    · rw [if_pos g, h6, show q72 (q81 6 x w f) x w f = 1 from if_pos g]
    · rw [if_neg g, h6, show q72 (q81 6 x w f) x w f = 0 from if_neg g]
  have h4 : ∀ v0 v1 v2 : Int32, q820_32_4 v0 v1 v2 x w f = ((((v2 + v1) + (q72 (q81 5 x w f) x w f)) + (q72 (q81 6 x w f) x w f)) + (q72 (q81 7 x w f) x w f)) := by
    intro v0 v1 v2
    unfold q820_32_4
    by_cases g : q81 5 x w f = true
    · rw [if_pos g, h5, show q72 (q81 5 x w f) x w f = 1 from if_pos g]
    · rw [if_neg g, h5, show q72 (q81 5 x w f) x w f = 0 from if_neg g]
  have h3 : ∀ v0 v1 v2 : Int32, q820_32_3 v0 v1 v2 x w f = (((((v2 + v1) + (q72 (q81 4 x w f) x w f)) + (q72 (q81 5 x w f) x w f)) + (q72 (q81 6 x w f) x w f)) + (q72 (q81 7 x w f) x w f)) := by
    intro v0 v1 v2
    unfold q820_32_3
    by_cases g : q81 4 x w f = true
    · rw [if_pos g, h4, show q72 (q81 4 x w f) x w f = 1 from if_pos g]
    · rw [if_neg g, h4, show q72 (q81 4 x w f) x w f = 0 from if_neg g]
  have h2 : ∀ v0 v1 v2 : Int32, q820_32_2 v0 v1 v2 x w f = ((((((v2 + v1) + (q72 (q81 3 x w f) x w f)) + (q72 (q81 4 x w f) x w f)) + (q72 (q81 5 x w f) x w f)) + (q72 (q81 6 x w f) x w f)) + (q72 (q81 7 x w f) x w f)) := by
    intro v0 v1 v2
    unfold q820_32_2
    by_cases g : q81 3 x w f = true
    · rw [if_pos g, h3, show q72 (q81 3 x w f) x w f = 1 from if_pos g]
    · rw [if_neg g, h3, show q72 (q81 3 x w f) x w f = 0 from if_neg g]
  have h1 : ∀ v0 v1 v2 : Int32, q820_32_1 v0 v1 v2 x w f = (((((((v2 + v1) + (q72 (q81 2 x w f) x w f)) + (q72 (q81 3 x w f) x w f)) + (q72 (q81 4 x w f) x w f)) + (q72 (q81 5 x w f) x w f)) + (q72 (q81 6 x w f) x w f)) + (q72 (q81 7 x w f) x w f)) := by
    intro v0 v1 v2
    unfold q820_32_1
    by_cases g : q81 2 x w f = true
    · rw [if_pos g, h2, show q72 (q81 2 x w f) x w f = 1 from if_pos g]
    · rw [if_neg g, h2, show q72 (q81 2 x w f) x w f = 0 from if_neg g]
  have h0 : ∀ v0 : Int32, q820_32 v0 x w f = (((((((((0 : Int32) + v0) + (q72 (q81 1 x w f) x w f)) + (q72 (q81 2 x w f) x w f)) + (q72 (q81 3 x w f) x w f)) + (q72 (q81 4 x w f) x w f)) + (q72 (q81 5 x w f) x w f)) + (q72 (q81 6 x w f) x w f)) + (q72 (q81 7 x w f) x w f)) := by
    intro v0
    unfold q820_32
    by_cases g : q81 1 x w f = true
    · rw [if_pos g, h1, show q72 (q81 1 x w f) x w f = 1 from if_pos g]
    · rw [if_neg g, h1, show q72 (q81 1 x w f) x w f = 0 from if_neg g]
  unfold q820
  by_cases g : q81 0 x w f = true
  · rw [if_pos g, h0, show q72 (q81 0 x w f) x w f = 1 from if_pos g]
  · rw [if_neg g, h0, show q72 (q81 0 x w f) x w f = 0 from if_neg g]
theorem pm_e28a {x : Nat → Nat → Int32} {w : Nat → Nat → Bool} {f : Nat → Nat → Nat} (h : pm_R1 x) (hb : pm_B1 w) : q28a x w f = q820 x w f := by
  rw [pm_e820]
  unfold q28a
  rw [pm_e11 (k := 32) (r := 0) h hb (by decide +kernel), pm_e11 (k := 34) (r := 1) h hb (by decide +kernel), pm_e11 (k := 36) (r := 2) h hb (by decide +kernel), pm_e11 (k := 38) (r := 3) h hb (by decide +kernel), pm_e11 (k := 40) (r := 4) h hb (by decide +kernel), pm_e11 (k := 42) (r := 5) h hb (by decide +kernel), pm_e11 (k := 44) (r := 6) h hb (by decide +kernel), pm_e11 (k := 46) (r := 7) h hb (by decide +kernel)]
theorem pm_e25a {x : Nat → Nat → Int32} {w : Nat → Nat → Bool} {f : Nat → Nat → Nat} (hs : x 29 4 = x 68 0) (hn : pm_N 31 0 0 x w) : q25a x w f = q750 x w f := by
  unfold q25a q750
  rcases hn with ⟨n0, -, n1, -⟩ | ⟨n0, -, n1, -⟩
  · rw [if_pos n0, hs, n1, Int32.mul_comm]
  · rw [if_pos n1, if_neg (by rw [n0]; exact Bool.false_ne_true)]
theorem pm_e30 {x : Nat → Nat → Int32} {w : Nat → Nat → Bool} {f : Nat → Nat → Nat} (hn : pm_N 31 0 0 x w) : x 31 0 = (if w 72 0 = true then x 73 0 else 0) := by
  rcases hn with ⟨n0, n1, -⟩ | ⟨n0, n1, -⟩
  · rw [if_pos n0]
    exact n1
  · rw [n1, if_neg (by rw [n0]; exact Bool.false_ne_true)]
theorem pm_e821 {x : Nat → Nat → Int32} {w : Nat → Nat → Bool} {f : Nat → Nat → Nat} : q821 x w f = (((((((((0 : Int32) + (q72 (q81 8 x w f) x w f)) + (q72 (q81 9 x w f) x w f)) + (q72 (q81 10 x w f) x w f)) + (q72 (q81 11 x w f) x w f)) + (q72 (q81 12 x w f) x w f)) + (q72 (q81 13 x w f) x w f)) + (q72 (q81 14 x w f) x w f)) + (q72 (q81 15 x w f) x w f)) := by
  have h7 : ∀ v0 v1 v2 : Int32, q821_32_7 v0 v1 v2 x w f = v2 + v1 := fun _ _ _ => rfl
  have h6 : ∀ v0 v1 v2 : Int32, q821_32_6 v0 v1 v2 x w f = ((v2 + v1) + (q72 (q81 15 x w f) x w f)) := by
    intro v0 v1 v2
    unfold q821_32_6
    by_cases g : q81 15 x w f = true
    · rw [if_pos g, h7, show q72 (q81 15 x w f) x w f = 1 from if_pos g]
    · rw [if_neg g, h7, show q72 (q81 15 x w f) x w f = 0 from if_neg g]
  have h5 : ∀ v0 v1 v2 : Int32, q821_32_5 v0 v1 v2 x w f = (((v2 + v1) + (q72 (q81 14 x w f) x w f)) + (q72 (q81 15 x w f) x w f)) := by
    intro v0 v1 v2
    unfold q821_32_5
    by_cases g : q81 14 x w f = true
    · rw [if_pos g, h6, show q72 (q81 14 x w f) x w f = 1 from if_pos g]
    · rw [if_neg g, h6, show q72 (q81 14 x w f) x w f = 0 from if_neg g]
  have h4 : ∀ v0 v1 v2 : Int32, q821_32_4 v0 v1 v2 x w f = ((((v2 + v1) + (q72 (q81 13 x w f) x w f)) + (q72 (q81 14 x w f) x w f)) + (q72 (q81 15 x w f) x w f)) := by
    intro v0 v1 v2
    unfold q821_32_4
    by_cases g : q81 13 x w f = true
    · rw [if_pos g, h5, show q72 (q81 13 x w f) x w f = 1 from if_pos g]
    · rw [if_neg g, h5, show q72 (q81 13 x w f) x w f = 0 from if_neg g]
  have h3 : ∀ v0 v1 v2 : Int32, q821_32_3 v0 v1 v2 x w f = (((((v2 + v1) + (q72 (q81 12 x w f) x w f)) + (q72 (q81 13 x w f) x w f)) + (q72 (q81 14 x w f) x w f)) + (q72 (q81 15 x w f) x w f)) := by
    intro v0 v1 v2
    unfold q821_32_3
    by_cases g : q81 12 x w f = true
    · rw [if_pos g, h4, show q72 (q81 12 x w f) x w f = 1 from if_pos g]
    · rw [if_neg g, h4, show q72 (q81 12 x w f) x w f = 0 from if_neg g]
  have h2 : ∀ v0 v1 v2 : Int32, q821_32_2 v0 v1 v2 x w f = ((((((v2 + v1) + (q72 (q81 11 x w f) x w f)) + (q72 (q81 12 x w f) x w f)) + (q72 (q81 13 x w f) x w f)) + (q72 (q81 14 x w f) x w f)) + (q72 (q81 15 x w f) x w f)) := by
    intro v0 v1 v2
    unfold q821_32_2
    by_cases g : q81 11 x w f = true
    · rw [if_pos g, h3, show q72 (q81 11 x w f) x w f = 1 from if_pos g]
    · rw [if_neg g, h3, show q72 (q81 11 x w f) x w f = 0 from if_neg g]
  have h1 : ∀ v0 v1 v2 : Int32, q821_32_1 v0 v1 v2 x w f = (((((((v2 + v1) + (q72 (q81 10 x w f) x w f)) + (q72 (q81 11 x w f) x w f)) + (q72 (q81 12 x w f) x w f)) + (q72 (q81 13 x w f) x w f)) + (q72 (q81 14 x w f) x w f)) + (q72 (q81 15 x w f) x w f)) := by
    intro v0 v1 v2
    unfold q821_32_1
    by_cases g : q81 10 x w f = true
    · rw [if_pos g, h2, show q72 (q81 10 x w f) x w f = 1 from if_pos g]
    · rw [if_neg g, h2, show q72 (q81 10 x w f) x w f = 0 from if_neg g]
  have h0 : ∀ v0 : Int32, q821_32 v0 x w f = (((((((((0 : Int32) + v0) + (q72 (q81 9 x w f) x w f)) + (q72 (q81 10 x w f) x w f)) + (q72 (q81 11 x w f) x w f)) + (q72 (q81 12 x w f) x w f)) + (q72 (q81 13 x w f) x w f)) + (q72 (q81 14 x w f) x w f)) + (q72 (q81 15 x w f) x w f)) := by
    intro v0
    unfold q821_32
    by_cases g : q81 9 x w f = true
    · rw [if_pos g, h1, show q72 (q81 9 x w f) x w f = 1 from if_pos g]
    · rw [if_neg g, h1, show q72 (q81 9 x w f) x w f = 0 from if_neg g]
  unfold q821
  by_cases g : q81 8 x w f = true
  · rw [if_pos g, h0, show q72 (q81 8 x w f) x w f = 1 from if_pos g]
  · rw [if_neg g, h0, show q72 (q81 8 x w f) x w f = 0 from if_neg g]
theorem pm_e28b {x : Nat → Nat → Int32} {w : Nat → Nat → Bool} {f : Nat → Nat → Nat} (h : pm_R1 x) (hb : pm_B1 w) : q28b x w f = q821 x w f := by
  rw [pm_e821]
  unfold q28b
  rw [pm_e11 (k := 51) (r := 8) h hb (by decide +kernel), pm_e11 (k := 53) (r := 9) h hb (by decide +kernel), pm_e11 (k := 55) (r := 10) h hb (by decide +kernel), pm_e11 (k := 57) (r := 11) h hb (by decide +kernel), pm_e11 (k := 59) (r := 12) h hb (by decide +kernel), pm_e11 (k := 61) (r := 13) h hb (by decide +kernel), pm_e11 (k := 63) (r := 14) h hb (by decide +kernel), pm_e11 (k := 65) (r := 15) h hb (by decide +kernel)]
theorem pm_e25b {x : Nat → Nat → Int32} {w : Nat → Nat → Bool} {f : Nat → Nat → Nat} (hs : x 48 4 = x 68 1) (hn : pm_N 50 1 6 x w) : q25b x w f = q751 x w f := by
  unfold q25b q751
  rcases hn with ⟨n0, -, n1, -⟩ | ⟨n0, -, n1, -⟩
  · rw [if_pos n0, hs, n1, Int32.mul_comm]
  · rw [if_pos n1, if_neg (by rw [n0]; exact Bool.false_ne_true)]
theorem pm_e31 {x : Nat → Nat → Int32} {w : Nat → Nat → Bool} {f : Nat → Nat → Nat} (hn : pm_N 50 1 6 x w) : x 50 0 = (if w 72 1 = true then x 73 6 else 0) := by
  rcases hn with ⟨n0, n1, -⟩ | ⟨n0, n1, -⟩
  · rw [if_pos n0]
    exact n1
  · rw [n1, if_neg (by rw [n0]; exact Bool.false_ne_true)]
theorem pm_e38 {x : Nat → Nat → Int32} {w : Nat → Nat → Bool} {f : Nat → Nat → Nat} (h : pm_R1 x) (hs : x 29 12 < 20 ↔ x 67 20 < 20) : q38a x w f = q78 x w f := by
  have e1 : x 29 9 = x 67 17 := (h ((29, 9), (67, 17), (-2000000, 2000000)) (by decide +kernel)).1
  have e2 : x 29 11 = x 67 19 := (h ((29, 11), (67, 19), (-1000, 1000)) (by decide +kernel)).1
  unfold q38a q78 q71
  rw [e1, e2]
  by_cases g : x 67 20 < 20
  · rw [if_pos g, if_pos (hs.mpr g)]
  · rw [if_neg g, if_neg (fun k => g (hs.mp k))]
    by_cases g1 : x 67 17 + x 67 19 < -250
    · rw [if_pos g1, if_neg Bool.false_ne_true]
    · rw [if_neg g1]
      by_cases g2 : 250 < x 67 17 + x 67 19
      · rw [if_pos g2, if_neg Bool.false_ne_true]
      · rw [if_neg g2, if_pos rfl]
theorem pm_e610 {x : Nat → Nat → Int32} {w : Nat → Nat → Bool} {f : Nat → Nat → Nat} {e : Int32} (h : pm_R1 x) (hb : pm_B1 w) (d : pm_Sd x w) : q610 e x w f = q1080 e x w f := by
  obtain ⟨d1, d2, d3, d4, d5, d6, d7, d8, d9, d10, d11⟩ := d
  have g1 : q69 0 x w f = true := pm_q71_t (by decide) (by decide)
  have g2 : ¬ q91 0 x w f = true := by unfold q91; rw [if_neg (by decide), if_pos (by decide)]; exact Bool.false_ne_true
  unfold q610 q1080 q30a q36a q830 q72
  rw [if_pos g1, if_neg g2, pm_e25a d1 d10, pm_e28a h hb, pm_e38 h d9, d1, d3, d5, d7, pm_e30 (f := f) d10]
theorem pm_e611 {x : Nat → Nat → Int32} {w : Nat → Nat → Bool} {f : Nat → Nat → Nat} {e : Int32} (h : pm_R1 x) (hb : pm_B1 w) (d : pm_Sd x w) : q611 e x w f = q1081 e x w f := by
  obtain ⟨d1, d2, d3, d4, d5, d6, d7, d8, d9, d10, d11⟩ := d
  have g1 : q69 1 x w f = true := pm_q71_t (by decide) (by decide)
  have g2 : ¬ q91 1 x w f = true := by unfold q91; rw [if_neg (by decide), if_pos (by decide)]; exact Bool.false_ne_true
  unfold q611 q1081 q30b q44b q831 q72
  rw [if_pos g1, if_neg g2, pm_e25b d2 d11, pm_e28b h hb, d2, d4, d6, d8, pm_e31 (f := f) d11]
theorem pm_e62 {x : Nat → Nat → Int32} {w : Nat → Nat → Bool} {f : Nat → Nat → Nat} (h : pm_R1 x) (hb : pm_B1 w) (d : pm_Sd x w) : q62 x w f = q109 x w f := by
  obtain ⟨d1, d2, d3, d4, d5, d6, d7, d8, d9, d10, d11⟩ := d
  unfold q62 q109 q26a q760
  rw [pm_e25a d1 d10, pm_e28a h hb, d3]
  rcases d10 with ⟨n0, n1, n2, n3, n4, n5, n6⟩ | ⟨n0, n1, n2, n3, n4, n5, n6⟩
  · rw [show x 73 4 = (if w 31 4 = true then 1 else 0) from n5]
    by_cases g : w 31 4 = true
    · rw [if_pos g, if_pos g, if_pos rfl]
    · rw [if_neg g, if_neg g, if_neg (by decide : ¬ (0 : Int32) = 1)]
  · have e : q750 x w f = -2 := by
      unfold q750
      rw [if_neg (by rw [n0]; exact Bool.false_ne_true)]
    rw [e, if_pos rfl, if_neg Bool.false_ne_true, if_neg Bool.false_ne_true]
section PMR
variable {R2 : pm_Iv} {sc : pm_Sc}
theorem pm_g61 (hc : pm_C2 R2) (hh : pm_Hs R2) (a b : Int32) : pm_Go (pm_call pm_Tf sc 7) (pm_I R2) 61 108 [.inl a, .inl b] := by
  intro n x w f _ h
  by_cases ha : q69 a x w f = true
  · rcases pm_q69_c ha with rfl | rfl
    · exact pm_gr_of (z610 (sc := sc) 2 b x w f) (z1080 (sc := sc) 3 b x w f) (pm_e610 h.1 h.2.1 (hh _ _ _ _ h.2.2)) (pm_I_mo hc h)
    · exact pm_gr_of (z611 (sc := sc) 2 b x w f) (z1081 (sc := sc) 3 b x w f) (pm_e611 h.1 h.2.1 (hh _ _ _ _ h.2.2)) (pm_I_mo hc h)
  · have hb : q91 a x w f = true := by
      unfold q91
      rcases pm_q71_n ha with h1 | ⟨h1, h2⟩
      · rw [if_pos h1]
      · rw [if_neg h1, if_neg (Int32.not_le.mpr h2)]
    exact pm_gr_of (z61s (sc := sc) 2 a b x w f ha) (z108s (sc := sc) 3 a b x w f hb) rfl (pm_I_mo hc h)
theorem pm_g62 (hc : pm_C2 R2) (hh : pm_Hs R2) : pm_Gb (pm_call pm_Tf sc 7) (pm_I R2) 62 109 [] := by
  intro n x w f _ h
  refine ⟨q62 x w f, x, w, f, x, w, f, z62 (sc := sc) 4 x w f, ?_, pm_I_mo hc h⟩
  rw [pm_e62 h.1 h.2.1 (hh _ _ _ _ h.2.2)]
  exact z109 (sc := sc) 4 x w f
end PMR

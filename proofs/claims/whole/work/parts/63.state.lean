/-! The counts and the state of a side: class against reference. -/
theorem pm_sub {a b : Nat} (h : b ≤ a) : Int32.ofNat a - Int32.ofNat b = Int32.ofNat (a - b) := by
  obtain ⟨d, rfl⟩ : ∃ d, a = d + b := ⟨a - b, by omega⟩
  rw [show Int32.ofNat (d + b) = Int32.ofNat d + Int32.ofNat b from (nI_add d b).symm, Int32.add_sub_cancel, Nat.add_sub_cancel]
/-- what the state's change sees -/
def pm_P0 (x : Nat → Nat → Int32) (w : Nat → Nat → Bool) : Prop := pm_R1 x ∧ pm_B1 w ∧ x 29 4 = x 68 0 ∧ x 48 4 = x 68 1 ∧ (x 29 12 < 20 ↔ x 67 20 < 20) ∧ pm_N 31 0 0 x w ∧ pm_N 50 1 6 x w
section PMS0
variable {x y : Nat → Nat → Int32} {w v : Nat → Nat → Bool} {f : Nat → Nat → Nat}
theorem pm_eb13 (h : pm_B1 w) : w 29 13 = w 67 21 := h ((29, 13), (67, 21)) (by decide +kernel)
theorem pm_eo0 (h : pm_P0 x w) : q34a x w f = q850 x w f := by
  obtain ⟨h1, h2, h3, h4, h5, h6, h7⟩ := h
  unfold q34a q850
  rw [pm_eb13 h2, pm_e38 h1 h5]
  have e : q26a x w f = q760 x w f := by
    unfold q26a q760
    rw [pm_e25a h3 h6]
  rw [e]
  rcases h6 with ⟨n0, -, -, n2, -⟩ | ⟨n0, -, -, n2, -⟩
  · rw [n2]
  · have g : ¬ q760 x w f = true := by
      unfold q760 q750
      rw [if_neg (show ¬ w 72 0 = true by rw [n0]; exact Bool.false_ne_true), if_pos rfl]
      exact Bool.false_ne_true
    rw [if_neg g, if_neg g]
theorem pm_ew0 (h : pm_P0 x w) : q35a x w f = q860 x w f := by
  obtain ⟨h1, h2, h3, h4, h5, h6, h7⟩ := h
  unfold q35a q860
  have e : q27a x w f = q770 x w f := by
    unfold q27a q770
    rw [pm_e25a h3 h6]
  rw [pm_eb13 h2, pm_e38 h1 h5, e]
  generalize w 67 21 = b0
  generalize q78 x w f = b1
  generalize q770 x w f = b2
  cases b0 <;> cases b1 <;> cases b2 <;> rfl
theorem pm_eo1 (h : pm_P0 x w) : q42b x w f = q851 x w f := by
  obtain ⟨h1, h2, h3, h4, h5, h6, h7⟩ := h
  unfold q42b q851
  have e : q26b x w f = q761 x w f := by
    unfold q26b q761
    rw [pm_e25b h4 h7]
  rw [e]
  rcases h7 with ⟨n0, -, -, -, -, n4, n5⟩ | ⟨n0, -, -, -, -, n4, n5⟩
  · have n4' : x 73 10 = (if w 50 4 = true then 1 else 0) := n4
    have n5' : x 73 11 = (if w 50 5 = true then 1 else 0) := n5
    rw [n4', n5']
    generalize w 50 4 = b0
    generalize w 50 5 = b1
    generalize q761 x w f = b2
    cases b0 <;> cases b1 <;> cases b2 <;> rfl
  · have g : ¬ q761 x w f = true := by
      unfold q761 q751
      rw [if_neg (show ¬ w 72 1 = true by rw [n0]; exact Bool.false_ne_true), if_pos rfl]
      exact Bool.false_ne_true
    rw [if_neg g, if_neg g]
theorem pm_ew1 (h : pm_P0 x w) : q43b x w f = q861 x w f := by
  obtain ⟨h1, h2, h3, h4, h5, h6, h7⟩ := h
  unfold q43b q861
  have e : q27b x w f = q771 x w f := by
    unfold q27b q771
    rw [pm_e25b h4 h7]
  rw [e]
  rcases h7 with ⟨n0, -, -, -, -, n4, n5⟩ | ⟨n0, -, -, -, -, n4, n5⟩
  · have n4' : x 73 10 = (if w 50 4 = true then 1 else 0) := n4
    have n5' : x 73 11 = (if w 50 5 = true then 1 else 0) := n5
    rw [n4', n5']
    generalize w 50 4 = b0
    generalize w 50 5 = b1
    generalize q771 x w f = b2
    cases b0 <;> cases b1 <;> cases b2 <;> rfl
  · have g : q771 x w f = true := by
      unfold q771 q751
      rw [if_neg (show ¬ w 72 1 = true by rw [n0]; exact Bool.false_ne_true), if_pos rfl]
    rw [if_pos g, if_pos g]
end PMS0
section PMT0
variable {x y : Nat → Nat → Int32} {w v : Nat → Nat → Bool} {f : Nat → Nat → Nat}
/-- the state's change: one of four, the same on both -/
theorem pm_sc_0 (hp : pm_P0 (pm_J x y) (pm_J w v)) {a b : Nat} (ha : a ≤ 256000) (hb : b ≤ a) (e4 : x 29 4 = Int32.ofNat a) (g8 : y 68 0 = Int32.ofNat a) (e6 : x 29 6 = Int32.ofNat b) (g0 : y 70 0 = Int32.ofNat b) (e5 : x 29 5 = y 69 0) (hs : x 29 5 = 0 ∨ x 29 5 = 1 ∨ (x 29 5 = 2 ∧ a < b + 151)) : (q22a x w f = (x, w) ∧ q870 y v f = (y, v) ∧ (x 29 5 = 2 → a < b + 150)) ∨ (q22a x w f = (pm_up (pm_up (pm_up x 29 5 1) 29 7 (x 29 4)) 29 8 (x 29 8 + 1), w) ∧ q870 y v f = (pm_up (pm_up y 69 0 1) 71 0 (y 71 0 + 1), v)) ∨ (q22a x w f = (pm_up (pm_up x 29 5 2) 29 6 (x 29 4), w) ∧ q870 y v f = (pm_up (pm_up y 69 0 2) 70 0 (y 68 0), v)) ∨ (q22a x w f = (pm_up x 29 5 0, w) ∧ q870 y v f = (pm_up y 69 0 0, v)) := by
  have eo : q34a x w f = q850 y v f := pm_eo0 (f := f) hp
  have ew : q35a x w f = q860 y v f := pm_ew0 (f := f) hp
  unfold q22a q870
  rw [eo, ew, ← e5]
  by_cases s0 : x 29 5 = 0
  · rw [if_pos s0, if_pos s0]
    by_cases g : q850 y v f = true
    · rw [if_pos g, if_pos g]
      exact Or.inr (Or.inl ⟨rfl, rfl⟩)
    · rw [if_neg g, if_neg g]
      exact Or.inl ⟨rfl, rfl, fun q => absurd (s0.symm.trans q) (by decide)⟩
  · rw [if_neg s0, if_neg s0]
    by_cases s1 : x 29 5 = 1
    · rw [if_pos s1, if_pos s1]
      by_cases g : q860 y v f = true
      · rw [if_pos g, if_pos g]
        exact Or.inr (Or.inr (Or.inl ⟨rfl, rfl⟩))
      · rw [if_neg g, if_neg g]
        exact Or.inl ⟨rfl, rfl, fun q => absurd (s1.symm.trans q) (by decide)⟩
    · rw [if_neg s1, if_neg s1]
      have h2 : a < b + 151 := by
        rcases hs with q | q | q
        · exact absurd q s0
        · exact absurd q s1
        · exact q.2
      rw [e4, e6, g8, g0, pm_sub hb]
      by_cases g : a < b + 150
      · rw [if_pos (show Int32.ofNat (a - b) < 150 from nI_lt (b := 150) (by omega) (by decide)), if_neg (show ¬ Int32.ofNat (a - b) = 150 from fun q => by have := (nI_eq (b := 150) (by omega) (by decide)).mp q; omega)]
        exact Or.inl ⟨rfl, rfl, fun _ => g⟩
      · rw [if_neg (show ¬ Int32.ofNat (a - b) < 150 from nI_nlt (b := 150) (by omega) (by omega)), if_pos (show Int32.ofNat (a - b) = 150 by rw [show a - b = 150 by omega]; rfl)]
        exact Or.inr (Or.inr (Or.inr ⟨rfl, rfl⟩))
end PMT0
section PMT1
variable {x y : Nat → Nat → Int32} {w v : Nat → Nat → Bool} {f : Nat → Nat → Nat}
/-- the state's change: one of four, the same on both -/
theorem pm_sc_1 (hp : pm_P0 (pm_J x y) (pm_J w v)) {a b : Nat} (ha : a ≤ 256000) (hb : b ≤ a) (e4 : x 48 4 = Int32.ofNat a) (g8 : y 68 1 = Int32.ofNat a) (e6 : x 48 6 = Int32.ofNat b) (g0 : y 70 1 = Int32.ofNat b) (e5 : x 48 5 = y 69 1) (hs : x 48 5 = 0 ∨ x 48 5 = 1 ∨ (x 48 5 = 2 ∧ a < b + 151)) : (q22b x w f = (x, w) ∧ q871 y v f = (y, v) ∧ (x 48 5 = 2 → a < b + 150)) ∨ (q22b x w f = (pm_up (pm_up (pm_up x 48 5 1) 48 7 (x 48 4)) 48 8 (x 48 8 + 1), w) ∧ q871 y v f = (pm_up (pm_up y 69 1 1) 71 1 (y 71 1 + 1), v)) ∨ (q22b x w f = (pm_up (pm_up x 48 5 2) 48 6 (x 48 4), w) ∧ q871 y v f = (pm_up (pm_up y 69 1 2) 70 1 (y 68 1), v)) ∨ (q22b x w f = (pm_up x 48 5 0, w) ∧ q871 y v f = (pm_up y 69 1 0, v)) := by
  have eo : q42b x w f = q851 y v f := pm_eo1 (f := f) hp
  have ew : q43b x w f = q861 y v f := pm_ew1 (f := f) hp
  unfold q22b q871
  rw [eo, ew, ← e5]
  by_cases s0 : x 48 5 = 0
  · rw [if_pos s0, if_pos s0]
    by_cases g : q851 y v f = true
    · rw [if_pos g, if_pos g]
      exact Or.inr (Or.inl ⟨rfl, rfl⟩)
    · rw [if_neg g, if_neg g]
      exact Or.inl ⟨rfl, rfl, fun q => absurd (s0.symm.trans q) (by decide)⟩
  · rw [if_neg s0, if_neg s0]
    by_cases s1 : x 48 5 = 1
    · rw [if_pos s1, if_pos s1]
      by_cases g : q861 y v f = true
      · rw [if_pos g, if_pos g]
        exact Or.inr (Or.inr (Or.inl ⟨rfl, rfl⟩))
      · rw [if_neg g, if_neg g]
        exact Or.inl ⟨rfl, rfl, fun q => absurd (s1.symm.trans q) (by decide)⟩
    · rw [if_neg s1, if_neg s1]
      have h2 : a < b + 151 := by
        rcases hs with q | q | q
        · exact absurd q s0
        · exact absurd q s1
        · exact q.2
      rw [e4, e6, g8, g0, pm_sub hb]
      by_cases g : a < b + 150
      · rw [if_pos (show Int32.ofNat (a - b) < 150 from nI_lt (b := 150) (by omega) (by decide)), if_neg (show ¬ Int32.ofNat (a - b) = 150 from fun q => by have := (nI_eq (b := 150) (by omega) (by decide)).mp q; omega)]
        exact Or.inl ⟨rfl, rfl, fun _ => g⟩
      · rw [if_neg (show ¬ Int32.ofNat (a - b) < 150 from nI_nlt (b := 150) (by omega) (by omega)), if_pos (show Int32.ofNat (a - b) = 150 by rw [show a - b = 150 by omega]; rfl)]
        exact Or.inr (Or.inr (Or.inr ⟨rfl, rfl⟩))
end PMT1

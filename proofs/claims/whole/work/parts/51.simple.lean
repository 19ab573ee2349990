/-! Calls that touch one pair of slots. -/
theorem pm_q71_i {x : Nat → Nat → Int32} {w : Nat → Nat → Bool} {f : Nat → Nat → Nat} {a lo hi : Int32} (h : q71 a lo hi x w f = true) : ¬ a < lo ∧ ¬ hi < a := ⟨fun g => pm_q71_f (Or.inl g) h, fun g => pm_q71_f (Or.inr g) h⟩
theorem pm_q69_c {x : Nat → Nat → Int32} {w : Nat → Nat → Bool} {f : Nat → Nat → Nat} {a : Int32} (h : q69 a x w f = true) : a = 0 ∨ a = 1 := by
  obtain ⟨h1, h2⟩ := pm_q71_i h
  obtain ⟨j, hj, rfl⟩ := nI_of2 (M := 1) (n := 1) (by decide) h1 (Int32.not_lt.mp h2)
  have e : j = 0 ∨ j = 1 := by omega
  rcases e with rfl | rfl
  · exact Or.inl (by decide)
  · exact Or.inr (by decide)
theorem pm_q70_c {x : Nat → Nat → Int32} {w : Nat → Nat → Bool} {f : Nat → Nat → Nat} {a : Int32} (h : q70 a x w f = true) : ∃ i, i < 8 ∧ a = Int32.ofNat i := by
  obtain ⟨h1, h2⟩ := pm_q71_i h
  obtain ⟨j, hj, e⟩ := nI_of2 (M := 7) (n := 7) (by decide) h1 (Int32.not_lt.mp h2)
  exact ⟨j, by omega, e⟩
theorem pm_q01_c {x : Nat → Nat → Int32} {w : Nat → Nat → Bool} {f : Nat → Nat → Nat} {a : Int32} (h : q71 a 0 1 x w f = true) : ∃ i, i < 2 ∧ a = Int32.ofNat i := by
  obtain ⟨h1, h2⟩ := pm_q71_i h
  obtain ⟨j, hj, e⟩ := nI_of2 (M := 1) (n := 1) (by decide) h1 (Int32.not_lt.mp h2)
  exact ⟨j, by omega, e⟩
theorem pm_q71_n {x : Nat → Nat → Int32} {w : Nat → Nat → Bool} {f : Nat → Nat → Nat} {a lo hi : Int32} (h : ¬ q71 a lo hi x w f = true) : a < lo ∨ (¬ a < lo ∧ hi < a) := by
  by_cases h1 : a < lo
  · exact Or.inl h1
  · by_cases h2 : hi < a
    · exact Or.inr ⟨h1, h2⟩
    · exact absurd (pm_q71_t h1 h2) h
theorem pm_q96_s {x y : Nat → Nat → Int32} {w v : Nat → Nat → Bool} {f g : Nat → Nat → Nat} {a l : Int32} (h : ¬ q69 a x w f = true) : q96 a l y v g = true := by
  have hb : q91 a y v g = true := by
    unfold q91
    rcases pm_q71_n h with h1 | ⟨h1, h2⟩
    · rw [if_pos h1]
    · rw [if_neg h1, if_neg (Int32.not_le.mpr h2)]
  unfold q96
  rw [if_pos hb]
theorem pm_q96_l {x y : Nat → Nat → Int32} {w v : Nat → Nat → Bool} {f g : Nat → Nat → Nat} {a l : Int32} (h : ¬ q70 l x w f = true) : q96 a l y v g = true := by
  unfold q96
  by_cases hb : q91 a y v g = true
  · rw [if_pos hb]
  · rw [if_neg hb]
    rcases pm_q71_n h with h1 | ⟨h1, h2⟩
    · rw [if_pos h1]
    · rw [if_neg h1, if_neg (Int32.not_le.mpr h2)]
theorem pm_q96_g {x y : Nat → Nat → Int32} {w v : Nat → Nat → Bool} {f g : Nat → Nat → Nat} {a l : Int32} (ha : q69 a x w f = true) (hl : q70 l x w f = true) : ¬ q96 a l y v g = true := by
  obtain ⟨h1, h2⟩ := pm_q71_i ha
  obtain ⟨h3, h4⟩ := pm_q71_i hl
  have hb : ¬ q91 a y v g = true := by
    unfold q91
    rw [if_neg h1, if_pos (Int32.not_lt.mp h2)]
    exact Bool.false_ne_true
  unfold q96
  rw [if_neg hb, if_neg h3, if_pos (Int32.not_lt.mp h4)]
  exact Bool.false_ne_true
section PMR
variable {R2 : pm_Iv} {sc : pm_Sc}
theorem pm_g49 (hc : pm_C2 R2) (a e : Int32) : pm_Go (pm_call pm_Tf sc 7) (pm_I R2) 49 93 [.inl a, .inl e] := by
  intro n x w f _ h
  have z1 := z49 (sc := sc) 6 a e x w f
  by_cases h1 : a < -2000000
  · exact pm_go_of z1 (by unfold q49; rw [if_neg (pm_q71_f (Or.inl h1))]) (z93 (sc := sc) 7 a e x w f) (by unfold q93; rw [if_pos h1]) (pm_I_mo hc h)
  by_cases h2 : 2000000 < a
  · exact pm_go_of z1 (by unfold q49; rw [if_neg (pm_q71_f (Or.inr h2))]) (z93 (sc := sc) 7 a e x w f) (by unfold q93; rw [if_neg h1, if_pos h2]) (pm_I_mo hc h)
  by_cases h3 : e < 0
  · exact pm_go_of z1 (by unfold q49; rw [if_pos (pm_q71_t h1 h2), if_neg (pm_q71_f (Or.inl h3))]) (z93 (sc := sc) 7 a e x w f) (by unfold q93; rw [if_neg h1, if_neg h2, if_pos h3]) (pm_I_mo hc h)
  by_cases h4 : 30000 < e
  · exact pm_go_of z1 (by unfold q49; rw [if_pos (pm_q71_t h1 h2), if_neg (pm_q71_f (Or.inr h4))]) (z93 (sc := sc) 7 a e x w f) (by unfold q93; rw [if_neg h1, if_neg h2, if_neg h3, if_neg (Int32.not_le.mpr h4)]) (pm_I_mo hc h)
  have hA := pm_R1_up h.1 (p := ((29, 9), (67, 17), (-2000000, 2000000))) (v := a) (by decide +kernel) (Int32.not_lt.mp h1) (Int32.not_lt.mp h2)
  have hB := pm_R1_up hA (p := ((29, 10), (67, 18), (0, 30000))) (v := e) (by decide +kernel) (Int32.not_lt.mp h3) (Int32.not_lt.mp h4)
  have ex : pm_up (pm_up (pm_up (pm_up x 29 9 a) 29 10 e) 67 17 a) 67 18 e = pm_up (pm_up (pm_up (pm_up x 29 9 a) 67 17 a) 29 10 e) 67 18 e := by
    have e2 : pm_up (pm_up (pm_up x 29 9 a) 29 10 e) 67 17 a = pm_up (pm_up (pm_up x 29 9 a) 67 17 a) 29 10 e := by
      funext k j
      rw [pm_up_eq, pm_up_eq, pm_up_eq (x := pm_up (pm_up x 29 9 a) 67 17 a), pm_up_eq (k := 67)]
      by_cases g1 : k = 67 ∧ j = 17
      · rw [if_pos g1, if_neg (by omega), if_pos g1]
      · rw [if_neg g1, if_neg g1]
    rw [e2]
  refine pm_go_of z1 (by unfold q49; rw [if_pos (pm_q71_t h1 h2), if_pos (pm_q71_t h3 h4)]) (z93 (sc := sc) 7 a e (pm_up (pm_up x 29 9 a) 29 10 e) w f) (x2 := pm_up (pm_up (pm_up (pm_up x 29 9 a) 67 17 a) 29 10 e) 67 18 e) (w2 := w) ?_ ⟨hB, h.2.1, hc n x w f _ w (fun k j g => (pm_fx_up (p := ((29, 10), (67, 18), (0, 30000))) (by decide +kernel) g).trans (pm_fx_up (p := ((29, 9), (67, 17), (-2000000, 2000000))) (by decide +kernel) g)) (fun _ _ _ => rfl) h.2.2⟩
  unfold q93
  rw [if_neg h1, if_neg h2, if_neg h3, if_pos (Int32.not_lt.mp h4)]
  show (0, pm_up (pm_up (pm_up (pm_up x 29 9 a) 29 10 e) 67 17 a) 67 18 e, w) = _
  rw [ex]
theorem pm_m520 : ∀ i, i < 8 → ((32 + 2 * i, 6), (77, 0 + i)) ∈ pm_pw := by decide +kernel
theorem pm_m521 : ∀ i, i < 8 → ((51 + 2 * i, 6), (77, 8 + i)) ∈ pm_pw := by decide +kernel
theorem pm_g52 (hc : pm_C2 R2) (a l : Int32) (b : Bool) : pm_Go (pm_call pm_Tf sc 7) (pm_I R2) 52 97 [.inl a, .inl l, pm_bi b] := by
  intro n x w f _ h
  by_cases ha : q69 a x w f = true
  · rcases pm_q69_c ha with rfl | rfl
    · by_cases hl : q70 l x w f = true
      · obtain ⟨i, hi, rfl⟩ := pm_q70_c hl
        have hp := pm_m520 i hi
        have e : w (32 + 2 * i) 6 = w 77 (0 + i) := h.2.1 _ hp
        have e2 : pm_up w (32 + 2 * i) 6 b 77 (0 + i) = w 77 (0 + i) := congrFun (pm_up_ne (by omega)) _
        refine pm_go_of (z520 (sc := sc) 5 i b x w f hi) (v := if w 77 (0 + i) = true then 1 else 0) (x1 := x) (w1 := pm_up w (32 + 2 * i) 6 b) ?_ (z970 (sc := sc) 5 i b x (pm_up w (32 + 2 * i) 6 b) f hi) (x2 := x) (w2 := pm_up (pm_up w (32 + 2 * i) 6 b) 77 (0 + i) b) ?_ (pm_I_w hc h hp)
        · unfold q520 q72
          rw [if_pos ha, if_pos hl, e]
        · unfold q970
          rw [if_neg (pm_q96_g ha hl), e2]
          by_cases g : w 77 (0 + i) = true
          · rw [if_pos g, if_pos g]
          · rw [if_neg g, if_neg g]
      · exact pm_go_of (z520l (sc := sc) 5 l b x w f hl) (by unfold q520l; rw [if_pos ha]) (z97s (sc := sc) 5 0 l b x w f (pm_q96_l hl)) rfl (pm_I_mo hc h)
    · by_cases hl : q70 l x w f = true
      · obtain ⟨i, hi, rfl⟩ := pm_q70_c hl
        have hp := pm_m521 i hi
        have e : w (51 + 2 * i) 6 = w 77 (8 + i) := h.2.1 _ hp
        have e2 : pm_up w (51 + 2 * i) 6 b 77 (8 + i) = w 77 (8 + i) := congrFun (pm_up_ne (by omega)) _
        refine pm_go_of (z521 (sc := sc) 5 i b x w f hi) (v := if w 77 (8 + i) = true then 1 else 0) (x1 := x) (w1 := pm_up w (51 + 2 * i) 6 b) ?_ (z971 (sc := sc) 5 i b x (pm_up w (51 + 2 * i) 6 b) f hi) (x2 := x) (w2 := pm_up (pm_up w (51 + 2 * i) 6 b) 77 (8 + i) b) ?_ (pm_I_w hc h hp)
        · unfold q521 q72
          rw [if_pos ha, if_pos hl, e]
        · unfold q971
          rw [if_neg (pm_q96_g ha hl), e2]
          by_cases g : w 77 (8 + i) = true
          · rw [if_pos g, if_pos g]
          · rw [if_neg g, if_neg g]
      · exact pm_go_of (z521l (sc := sc) 5 l b x w f hl) (by unfold q521l; rw [if_pos ha]) (z97s (sc := sc) 5 1 l b x w f (pm_q96_l hl)) rfl (pm_I_mo hc h)
  · exact pm_go_of (z52s (sc := sc) 5 a l b x w f ha) rfl (z97s (sc := sc) 5 a l b x w f (pm_q96_s ha)) rfl (pm_I_mo hc h)
theorem pm_m530 : ∀ i, i < 8 → ((32 + 2 * i, 7), (78, 0 + i)) ∈ pm_pw := by decide +kernel
theorem pm_m531 : ∀ i, i < 8 → ((51 + 2 * i, 7), (78, 8 + i)) ∈ pm_pw := by decide +kernel
theorem pm_g53 (hc : pm_C2 R2) (a l : Int32) (b : Bool) : pm_Go (pm_call pm_Tf sc 7) (pm_I R2) 53 98 [.inl a, .inl l, pm_bi b] := by
  intro n x w f _ h
  by_cases ha : q69 a x w f = true
  · rcases pm_q69_c ha with rfl | rfl
    · by_cases hl : q70 l x w f = true
      · obtain ⟨i, hi, rfl⟩ := pm_q70_c hl
        have hp := pm_m530 i hi
        have e : w (32 + 2 * i) 7 = w 78 (0 + i) := h.2.1 _ hp
        have e2 : pm_up w (32 + 2 * i) 7 b 78 (0 + i) = w 78 (0 + i) := congrFun (pm_up_ne (by omega)) _
        refine pm_go_of (z530 (sc := sc) 5 i b x w f hi) (v := if w 78 (0 + i) = true then 1 else 0) (x1 := x) (w1 := pm_up w (32 + 2 * i) 7 b) ?_ (z980 (sc := sc) 5 i b x (pm_up w (32 + 2 * i) 7 b) f hi) (x2 := x) (w2 := pm_up (pm_up w (32 + 2 * i) 7 b) 78 (0 + i) b) ?_ (pm_I_w hc h hp)
        · unfold q530 q72
          rw [if_pos ha, if_pos hl, e]
        · unfold q980
          rw [if_neg (pm_q96_g ha hl), e2]
          by_cases g : w 78 (0 + i) = true
          · rw [if_pos g, if_pos g]
          · rw [if_neg g, if_neg g]
      · exact pm_go_of (z530l (sc := sc) 5 l b x w f hl) (by unfold q530l; rw [if_pos ha]) (z98s (sc := sc) 5 0 l b x w f (pm_q96_l hl)) rfl (pm_I_mo hc h)
    · by_cases hl : q70 l x w f = true
      · obtain ⟨i, hi, rfl⟩ := pm_q70_c hl
        have hp := pm_m531 i hi
        have e : w (51 + 2 * i) 7 = w 78 (8 + i) := h.2.1 _ hp
        have e2 : pm_up w (51 + 2 * i) 7 b 78 (8 + i) = w 78 (8 + i) := congrFun (pm_up_ne (by omega)) _
        refine pm_go_of (z531 (sc := sc) 5 i b x w f hi) (v := if w 78 (8 + i) = true then 1 else 0) (x1 := x) (w1 := pm_up w (51 + 2 * i) 7 b) ?_ (z981 (sc := sc) 5 i b x (pm_up w (51 + 2 * i) 7 b) f hi) (x2 := x) (w2 := pm_up (pm_up w (51 + 2 * i) 7 b) 78 (8 + i) b) ?_ (pm_I_w hc h hp)
        · unfold q531 q72
          rw [if_pos ha, if_pos hl, e]
        · unfold q981
          rw [if_neg (pm_q96_g ha hl), e2]
          by_cases g : w 78 (8 + i) = true
          · rw [if_pos g, if_pos g]
          · rw [if_neg g, if_neg g]
      · exact pm_go_of (z531l (sc := sc) 5 l b x w f hl) (by unfold q531l; rw [if_pos ha]) (z98s (sc := sc) 5 1 l b x w f (pm_q96_l hl)) rfl (pm_I_mo hc h)
  · exact pm_go_of (z53s (sc := sc) 5 a l b x w f ha) rfl (z98s (sc := sc) 5 a l b x w f (pm_q96_s ha)) rfl (pm_I_mo hc h)
theorem pm_m540 : ∀ i, i < 8 → (((32 + 2 * i, 4), (81, 0 + i), (0, 1000)) : pm_Pr) ∈ pm_px := by decide +kernel
theorem pm_m541 : ∀ i, i < 8 → (((51 + 2 * i, 4), (81, 8 + i), (0, 1000)) : pm_Pr) ∈ pm_px := by decide +kernel
theorem pm_g54 (hc : pm_C2 R2) (a l b : Int32) : pm_Go (pm_call pm_Tf sc 7) (pm_I R2) 54 99 [.inl a, .inl l, .inl b] := by
  intro n x w f _ h
  by_cases ha : q69 a x w f = true
  · rcases pm_q69_c ha with rfl | rfl
    · by_cases hl : q70 l x w f = true
      · obtain ⟨i, hi, rfl⟩ := pm_q70_c hl
        by_cases h1 : b < 0
        · exact pm_go_of (z540 (sc := sc) 5 i b x w f hi) (by unfold q540; rw [if_pos ha, if_pos hl, if_neg (pm_q71_f (Or.inl h1))]) (z990 (sc := sc) 5 i b x w f hi) (by unfold q990; rw [if_neg (pm_q96_g ha hl), if_pos h1]) (pm_I_mo hc h)
        by_cases h2 : 1000 < b
        · exact pm_go_of (z540 (sc := sc) 5 i b x w f hi) (by unfold q540; rw [if_pos ha, if_pos hl, if_neg (pm_q71_f (Or.inr h2))]) (z990 (sc := sc) 5 i b x w f hi) (by unfold q990; rw [if_neg (pm_q96_g ha hl), if_neg h1, if_neg (Int32.not_le.mpr h2)]) (pm_I_mo hc h)
        have hp := pm_m540 i hi
        have e : x (32 + 2 * i) 4 = x 81 (0 + i) := (h.1 _ hp).1
        have e2 : pm_up x (32 + 2 * i) 4 b 81 (0 + i) = x 81 (0 + i) := congrFun (pm_up_ne (by omega)) _
        refine pm_go_of (z540 (sc := sc) 5 i b x w f hi) (v := x 81 (0 + i)) (x1 := pm_up x (32 + 2 * i) 4 b) (w1 := w) ?_ (z990 (sc := sc) 5 i b (pm_up x (32 + 2 * i) 4 b) w f hi) (x2 := pm_up (pm_up x (32 + 2 * i) 4 b) 81 (0 + i) b) (w2 := w) ?_ (pm_I_x hc h hp (Int32.not_lt.mp h1) (Int32.not_lt.mp h2))
        · unfold q540
          rw [if_pos ha, if_pos hl, if_pos (pm_q71_t h1 h2), e]
        · unfold q990
          rw [if_neg (pm_q96_g ha hl), if_neg h1, if_pos (Int32.not_lt.mp h2), e2]
      · exact pm_go_of (z540l (sc := sc) 5 l b x w f hl) (by unfold q540l; rw [if_pos ha]) (z99s (sc := sc) 5 0 l b x w f (pm_q96_l hl)) rfl (pm_I_mo hc h)
    · by_cases hl : q70 l x w f = true
      · obtain ⟨i, hi, rfl⟩ := pm_q70_c hl
        by_cases h1 : b < 0
        · exact pm_go_of (z541 (sc := sc) 5 i b x w f hi) (by unfold q541; rw [if_pos ha, if_pos hl, if_neg (pm_q71_f (Or.inl h1))]) (z991 (sc := sc) 5 i b x w f hi) (by unfold q991; rw [if_neg (pm_q96_g ha hl), if_pos h1]) (pm_I_mo hc h)
        by_cases h2 : 1000 < b
        · exact pm_go_of (z541 (sc := sc) 5 i b x w f hi) (by unfold q541; rw [if_pos ha, if_pos hl, if_neg (pm_q71_f (Or.inr h2))]) (z991 (sc := sc) 5 i b x w f hi) (by unfold q991; rw [if_neg (pm_q96_g ha hl), if_neg h1, if_neg (Int32.not_le.mpr h2)]) (pm_I_mo hc h)
        have hp := pm_m541 i hi
        have e : x (51 + 2 * i) 4 = x 81 (8 + i) := (h.1 _ hp).1
        have e2 : pm_up x (51 + 2 * i) 4 b 81 (8 + i) = x 81 (8 + i) := congrFun (pm_up_ne (by omega)) _
        refine pm_go_of (z541 (sc := sc) 5 i b x w f hi) (v := x 81 (8 + i)) (x1 := pm_up x (51 + 2 * i) 4 b) (w1 := w) ?_ (z991 (sc := sc) 5 i b (pm_up x (51 + 2 * i) 4 b) w f hi) (x2 := pm_up (pm_up x (51 + 2 * i) 4 b) 81 (8 + i) b) (w2 := w) ?_ (pm_I_x hc h hp (Int32.not_lt.mp h1) (Int32.not_lt.mp h2))
        · unfold q541
          rw [if_pos ha, if_pos hl, if_pos (pm_q71_t h1 h2), e]
        · unfold q991
          rw [if_neg (pm_q96_g ha hl), if_neg h1, if_pos (Int32.not_lt.mp h2), e2]
      · exact pm_go_of (z541l (sc := sc) 5 l b x w f hl) (by unfold q541l; rw [if_pos ha]) (z99s (sc := sc) 5 1 l b x w f (pm_q96_l hl)) rfl (pm_I_mo hc h)
  · exact pm_go_of (z54s (sc := sc) 5 a l b x w f ha) rfl (z99s (sc := sc) 5 a l b x w f (pm_q96_s ha)) rfl (pm_I_mo hc h)
theorem pm_n5500 : ∀ i, i < 8 → ((((32 + 2 * i) + 1, 0), (84, (2 * (0 + i)) + 0), (0, 2)) : pm_Pr) ∈ pm_px := by decide +kernel
theorem pm_n5501 : ∀ i, i < 8 → ((((32 + 2 * i) + 1, 1), (84, (2 * (0 + i)) + 1), (0, 2)) : pm_Pr) ∈ pm_px := by decide +kernel
theorem pm_m550 (i : Nat) (hi : i < 8) (m : Nat) (hm : m < 2) : ((((32 + 2 * i) + 1, m), (84, (2 * (0 + i)) + m), (0, 2)) : pm_Pr) ∈ pm_px := by
  have e : m = 0 ∨ m = 1 := by omega
  rcases e with rfl | rfl
  · exact pm_n5500 i hi
  · exact pm_n5501 i hi
theorem pm_n5510 : ∀ i, i < 8 → ((((51 + 2 * i) + 1, 0), (84, (2 * (8 + i)) + 0), (0, 2)) : pm_Pr) ∈ pm_px := by decide +kernel
theorem pm_n5511 : ∀ i, i < 8 → ((((51 + 2 * i) + 1, 1), (84, (2 * (8 + i)) + 1), (0, 2)) : pm_Pr) ∈ pm_px := by decide +kernel
theorem pm_m551 (i : Nat) (hi : i < 8) (m : Nat) (hm : m < 2) : ((((51 + 2 * i) + 1, m), (84, (2 * (8 + i)) + m), (0, 2)) : pm_Pr) ∈ pm_px := by
  have e : m = 0 ∨ m = 1 := by omega
  rcases e with rfl | rfl
  · exact pm_n5510 i hi
  · exact pm_n5511 i hi
theorem pm_g55 (hc : pm_C2 R2) (a l m b : Int32) : pm_Go (pm_call pm_Tf sc 7) (pm_I R2) 55 100 [.inl a, .inl l, .inl m, .inl b] := by
  intro n x w f _ h
  by_cases ha : q69 a x w f = true
  · rcases pm_q69_c ha with rfl | rfl
    · by_cases hl : q70 l x w f = true
      · obtain ⟨i, hi, rfl⟩ := pm_q70_c hl
        by_cases hm : q71 m 0 1 x w f = true
        · obtain ⟨m, hm2, rfl⟩ := pm_q01_c hm
          obtain ⟨m1, m2⟩ := pm_q71_i hm
          by_cases h1 : b < 0
          · exact pm_go_of (z550 (sc := sc) 5 i m b x w f hi hm2) (by unfold q550; rw [if_pos ha, if_pos hl, if_pos hm, if_neg (pm_q71_f (Or.inl h1))]) (z1000 (sc := sc) 5 i m b x w f hi hm2) (by unfold q1000; rw [if_neg (pm_q96_g ha hl), if_neg m1, if_neg m2, if_pos h1]) (pm_I_mo hc h)
          by_cases h2 : 2 < b
          · exact pm_go_of (z550 (sc := sc) 5 i m b x w f hi hm2) (by unfold q550; rw [if_pos ha, if_pos hl, if_pos hm, if_neg (pm_q71_f (Or.inr h2))]) (z1000 (sc := sc) 5 i m b x w f hi hm2) (by unfold q1000; rw [if_neg (pm_q96_g ha hl), if_neg m1, if_neg m2, if_neg h1, if_neg (Int32.not_le.mpr h2)]) (pm_I_mo hc h)
          have hp := pm_m550 i hi m hm2
          have e : x ((32 + 2 * i) + 1) m = x 84 ((2 * (0 + i)) + m) := (h.1 _ hp).1
          have e2 : pm_up x ((32 + 2 * i) + 1) m b 84 ((2 * (0 + i)) + m) = x 84 ((2 * (0 + i)) + m) := congrFun (pm_up_ne (by omega)) _
          refine pm_go_of (z550 (sc := sc) 5 i m b x w f hi hm2) (v := x 84 ((2 * (0 + i)) + m)) (x1 := pm_up x ((32 + 2 * i) + 1) m b) (w1 := w) ?_ (z1000 (sc := sc) 5 i m b (pm_up x ((32 + 2 * i) + 1) m b) w f hi hm2) (x2 := pm_up (pm_up x ((32 + 2 * i) + 1) m b) 84 ((2 * (0 + i)) + m) b) (w2 := w) ?_ (pm_I_x hc h hp (Int32.not_lt.mp h1) (Int32.not_lt.mp h2))
          · unfold q550
            rw [if_pos ha, if_pos hl, if_pos hm, if_pos (pm_q71_t h1 h2), e]
          · unfold q1000
            rw [if_neg (pm_q96_g ha hl), if_neg m1, if_neg m2, if_neg h1, if_pos (Int32.not_lt.mp h2), e2]
        · rcases pm_q71_n hm with m1 | ⟨m1, m2⟩
          · exact pm_go_of (z550w (sc := sc) 5 i m b x w f hi hm) (by unfold q550w; rw [if_pos ha, if_pos hl]) (z1000w (sc := sc) 5 i m b x w f hi m1) (by unfold q1000w; rw [if_neg (pm_q96_g ha hl)]) (pm_I_mo hc h)
          · exact pm_go_of (z550w (sc := sc) 5 i m b x w f hi hm) (by unfold q550w; rw [if_pos ha, if_pos hl]) (z1000v (sc := sc) 5 i m b x w f hi m1 m2) (by unfold q1000v; rw [if_neg (pm_q96_g ha hl)]) (pm_I_mo hc h)
      · exact pm_go_of (z550l (sc := sc) 5 l m b x w f hl) (by unfold q550l; rw [if_pos ha]) (z100s (sc := sc) 5 0 l m b x w f (pm_q96_l hl)) rfl (pm_I_mo hc h)
    · by_cases hl : q70 l x w f = true
      · obtain ⟨i, hi, rfl⟩ := pm_q70_c hl
        by_cases hm : q71 m 0 1 x w f = true
        · obtain ⟨m, hm2, rfl⟩ := pm_q01_c hm
          obtain ⟨m1, m2⟩ := pm_q71_i hm
          by_cases h1 : b < 0
          · exact pm_go_of (z551 (sc := sc) 5 i m b x w f hi hm2) (by unfold q551; rw [if_pos ha, if_pos hl, if_pos hm, if_neg (pm_q71_f (Or.inl h1))]) (z1001 (sc := sc) 5 i m b x w f hi hm2) (by unfold q1001; rw [if_neg (pm_q96_g ha hl), if_neg m1, if_neg m2, if_pos h1]) (pm_I_mo hc h)
          by_cases h2 : 2 < b
          · exact pm_go_of (z551 (sc := sc) 5 i m b x w f hi hm2) (by unfold q551; rw [if_pos ha, if_pos hl, if_pos hm, if_neg (pm_q71_f (Or.inr h2))]) (z1001 (sc := sc) 5 i m b x w f hi hm2) (by unfold q1001; rw [if_neg (pm_q96_g ha hl), if_neg m1, if_neg m2, if_neg h1, if_neg (Int32.not_le.mpr h2)]) (pm_I_mo hc h)
          have hp := pm_m551 i hi m hm2
          have e : x ((51 + 2 * i) + 1) m = x 84 ((2 * (8 + i)) + m) := (h.1 _ hp).1
          have e2 : pm_up x ((51 + 2 * i) + 1) m b 84 ((2 * (8 + i)) + m) = x 84 ((2 * (8 + i)) + m) := congrFun (pm_up_ne (by omega)) _
          refine pm_go_of (z551 (sc := sc) 5 i m b x w f hi hm2) (v := x 84 ((2 * (8 + i)) + m)) (x1 := pm_up x ((51 + 2 * i) + 1) m b) (w1 := w) ?_ (z1001 (sc := sc) 5 i m b (pm_up x ((51 + 2 * i) + 1) m b) w f hi hm2) (x2 := pm_up (pm_up x ((51 + 2 * i) + 1) m b) 84 ((2 * (8 + i)) + m) b) (w2 := w) ?_ (pm_I_x hc h hp (Int32.not_lt.mp h1) (Int32.not_lt.mp h2))
          · unfold q551
            rw [if_pos ha, if_pos hl, if_pos hm, if_pos (pm_q71_t h1 h2), e]
          · unfold q1001
            rw [if_neg (pm_q96_g ha hl), if_neg m1, if_neg m2, if_neg h1, if_pos (Int32.not_lt.mp h2), e2]
        · rcases pm_q71_n hm with m1 | ⟨m1, m2⟩
          · exact pm_go_of (z551w (sc := sc) 5 i m b x w f hi hm) (by unfold q551w; rw [if_pos ha, if_pos hl]) (z1001w (sc := sc) 5 i m b x w f hi m1) (by unfold q1001w; rw [if_neg (pm_q96_g ha hl)]) (pm_I_mo hc h)
          · exact pm_go_of (z551w (sc := sc) 5 i m b x w f hi hm) (by unfold q551w; rw [if_pos ha, if_pos hl]) (z1001v (sc := sc) 5 i m b x w f hi m1 m2) (by unfold q1001v; rw [if_neg (pm_q96_g ha hl)]) (pm_I_mo hc h)
      · exact pm_go_of (z551l (sc := sc) 5 l m b x w f hl) (by unfold q551l; rw [if_pos ha]) (z100s (sc := sc) 5 1 l m b x w f (pm_q96_l hl)) rfl (pm_I_mo hc h)
  · exact pm_go_of (z55s (sc := sc) 5 a l m b x w f ha) rfl (z100s (sc := sc) 5 a l m b x w f (pm_q96_s ha)) rfl (pm_I_mo hc h)
end PMR

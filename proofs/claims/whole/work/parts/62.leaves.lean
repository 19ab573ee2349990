/-! The eight leaves of a side. -/
theorem pm_all (a : Int32) : (-2147483648 : Int32) ≤ a ∧ a ≤ 2147483647 := by
  have h1 := Int32.le_toInt a
  have h2 := Int32.toInt_lt a
  have e1 : (-2147483648 : Int32).toInt = -2147483648 := by decide
  have e2 : (2147483647 : Int32).toInt = 2147483647 := by decide
  constructor
  · rw [Int32.le_iff_toInt_le, e1]; omega
  · rw [Int32.le_iff_toInt_le, e2]; omega
theorem pm_lf_lt : ∀ p ∈ pm_lf, p.1 < 67 := by decide +kernel
theorem pm_lf_inj : ∀ p ∈ pm_lf, ∀ q ∈ pm_lf, (p.1 = q.1 ↔ p.2 = q.2) := by decide +kernel
theorem pm_Lf_of {x y : Nat → Nat → Int32} {w v : Nat → Nat → Bool} {k r : Nat} (h : pm_R1 (pm_J x y)) (hb : pm_B1 (pm_J w v)) (hk : (k, r) ∈ pm_lf) : pm_Lf k r x w y v := by
  have k67 : k < 67 := pm_lf_lt (k, r) hk
  have f1 := pm_f1 h hk
  have f2 := pm_f2 h hk
  have f3 := pm_f3 h hk
  have f4 := pm_f4 h hk
  have g5 := pm_b5 hb hk
  have g6 := pm_b6 hb hk
  have g7 := pm_b7 hb hk
  have g8 := pm_b8 hb hk
  rw [pm_J_l k67] at f1 f2 f3 f4 g5 g6 g7 g8
  exact ⟨f1, f2, f3, f4, g5, g6, g7, g8⟩
def pm_AR (y : Nat → Nat → Int32) (v : Nat → Nat → Bool) (y' : Nat → Nat → Int32) (v' : Nat → Nat → Bool) : Prop := ∀ aa, ¬ (76 ≤ aa ∧ aa ≤ 83) → y' aa = y aa ∧ v' aa = v aa
theorem pm_ct : ∀ p ∈ pm_lf, (32 ≤ p.1 ∧ p.1 ≤ 46 ∧ p.1 % 2 = 0) ∨ (51 ≤ p.1 ∧ p.1 ≤ 65 ∧ p.1 % 2 = 1) := by decide +kernel
theorem pm_R1_CH {x y x' y' : Nat → Nat → Int32} {w' v' : Nat → Nat → Bool} (h : pm_R1 (pm_J x y)) (hl : ∀ k r, (k, r) ∈ pm_lf → pm_Lf k r x' w' y' v') (ax : ∀ aa, aa < 67 → (aa = 0 ∨ aa = 29 ∨ (33 ≤ aa ∧ aa ≤ 47 ∧ aa % 2 = 1) ∨ (52 ≤ aa ∧ aa % 2 = 0)) → x' aa = x aa) (a67 : y' 67 = y 67) (a84 : y' 84 = y 84) : pm_R1 (pm_J x' y') := by
  have x0 : x' 0 = x 0 := ax 0 (by omega) (by omega)
  have x29 : x' 29 = x 29 := ax 29 (by omega) (by omega)
  have ct : ∀ p ∈ pm_lf, p.1 + 1 < 67 ∧ ((33 ≤ p.1 + 1 ∧ p.1 + 1 ≤ 47 ∧ (p.1 + 1) % 2 = 1) ∨ (52 ≤ p.1 + 1 ∧ (p.1 + 1) % 2 = 0)) := by
    intro p hp
    have := pm_ct p hp
    omega
  intro q hq
  rcases List.mem_append.mp hq with g | g
  · have hh := h q hq
    simp only [List.mem_cons, List.not_mem_nil, or_false] at g
    rcases g with rfl | rfl | rfl | rfl
    · show x' 29 9 = y' 67 17 ∧ _ ≤ x' 29 9 ∧ x' 29 9 ≤ _
      rw [x29, a67]
      exact hh
    · show x' 29 10 = y' 67 18 ∧ _ ≤ x' 29 10 ∧ x' 29 10 ≤ _
      rw [x29, a67]
      exact hh
    · show x' 29 11 = y' 67 19 ∧ _ ≤ x' 29 11 ∧ x' 29 11 ≤ _
      rw [x29, a67]
      exact hh
    · show x' 0 3 = y' 67 23 ∧ _ ≤ x' 0 3 ∧ x' 0 3 ≤ _
      rw [x0, a67]
      exact hh
  · obtain ⟨⟨k, r⟩, hk, g⟩ := List.mem_flatMap.mp g
    have hh := h q hq
    have k67 : k < 67 := pm_lf_lt (k, r) hk
    have hc := ct (k, r) hk
    have xc : x' (k + 1) = x (k + 1) := ax (k + 1) hc.1 (by have := hc.2; dsimp only at this; omega)
    obtain ⟨l1, l2, l3, l4, l5, l6, l7, l8⟩ := hl k r hk
    simp only [List.mem_cons, List.not_mem_nil, or_false] at g
    rcases g with rfl | rfl | rfl | rfl | rfl | rfl
    · dsimp only
      rw [pm_J_l k67]
      exact l1
    · dsimp only
      rw [pm_J_l k67]
      exact ⟨l2, pm_all _⟩
    · dsimp only
      rw [pm_J_l k67]
      exact l3
    · dsimp only
      rw [pm_J_l k67]
      exact l4
    · dsimp only at hh ⊢
      rw [pm_J_l hc.1] at hh ⊢
      rw [xc]
      show x (k + 1) 0 = y' 84 (2 * r) ∧ _
      rw [a84]
      exact hh
    · dsimp only at hh ⊢
      rw [pm_J_l hc.1] at hh ⊢
      rw [xc]
      show x (k + 1) 1 = y' 84 (2 * r + 1) ∧ _
      rw [a84]
      exact hh
theorem pm_B1_CH {x' y' : Nat → Nat → Int32} {w v w' v' : Nat → Nat → Bool} (h : pm_B1 (pm_J w v)) (hl : ∀ k r, (k, r) ∈ pm_lf → pm_Lf k r x' w' y' v') (a29 : w' 29 = w 29) (a67 : v' 67 = v 67) : pm_B1 (pm_J w' v') := by
  intro q hq
  rcases List.mem_append.mp hq with g | g
  · have hh := h q hq
    simp only [List.mem_cons, List.not_mem_nil, or_false] at g
    subst g
    show w' 29 13 = v' 67 21
    rw [a29, a67]
    exact hh
  · obtain ⟨⟨k, r⟩, hk, g⟩ := List.mem_flatMap.mp g
    have k67 : k < 67 := pm_lf_lt (k, r) hk
    obtain ⟨l1, l2, l3, l4, l5, l6, l7, l8⟩ := hl k r hk
    simp only [List.mem_cons, List.not_mem_nil, or_false] at g
    rcases g with rfl | rfl | rfl | rfl
    · dsimp only
      rw [pm_J_l k67]
      exact l5
    · dsimp only
      rw [pm_J_l k67]
      exact l6
    · dsimp only
      rw [pm_J_l k67]
      exact l7
    · dsimp only
      rw [pm_J_l k67]
      exact l8
def pm_Qj (aa j : Nat) (y : Nat → Nat → Int32) (v : Nat → Nat → Bool) (t : (Nat → Nat → Int32) × (Nat → Nat → Bool)) : Prop := t.1 aa j = y aa j ∧ t.2 aa j = v aa j
theorem pm_Qj_t {aa j : Nat} {y Y : Nat → Nat → Int32} {v V : Nat → Nat → Bool} {t : (Nat → Nat → Int32) × (Nat → Nat → Bool)} (h : pm_Qj aa j Y V t) (h1 : Y aa j = y aa j) (h2 : V aa j = v aa j) : pm_Qj aa j y v t := ⟨h.1.trans h1, h.2.trans h2⟩
theorem pm_hu {α : Type} {aa j r : Nat} (h : j ≠ r) (z : Nat → Nat → α) (p : Nat) (c : α) : pm_up z p r c aa j = z aa j := by rw [pm_up_eq, if_neg (fun g => h g.2)]
section PMC0
variable {x y x' y' : Nat → Nat → Int32} {w v w' v' : Nat → Nat → Bool} {f : Nat → Nat → Nat} {i aa j : Nat}
theorem pm_m325_0 {a b : Bool} {c d : Int32} (h : j ≠ 0 + i) : pm_Qj aa j y v (q880_325 i a b c d y v f) := by
  unfold q880_325
  split
  · exact ⟨by simp only [pm_hu h], rfl⟩
  · split
    · exact ⟨by simp only [pm_hu h], rfl⟩
    · exact ⟨by simp only [pm_hu h], rfl⟩
theorem pm_m304_0 {a b : Bool} (h : j ≠ 0 + i) : pm_Qj aa j y v (q880_304 i a b y v f) := by
  unfold q880_304
  split
  · exact pm_m325_0 h
  · exact pm_m325_0 h
theorem pm_m281_0 {a b : Bool} {c : Int32} (h : j ≠ 0 + i) : pm_Qj aa j y v (q880_281 i a b c y v f) := by
  unfold q880_281
  split
  · exact pm_Qj_t (pm_m304_0 h) (by simp only [pm_hu h]) (by simp only [pm_hu h])
  · exact pm_Qj_t (pm_m304_0 h) (by simp only [pm_hu h]) rfl
theorem pm_m254_0 {a b : Bool} (h : j ≠ 0 + i) : pm_Qj aa j y v (q880_254 i a b y v f) := by
  unfold q880_254
  split
  · exact pm_m281_0 h
  · exact pm_m281_0 h
theorem pm_m84_0 {a b : Bool} (h : j ≠ 0 + i) : pm_Qj aa j y v (q880_84 i a b y v f) := by
  unfold q880_84
  repeat' split
  all_goals exact pm_Qj_t (pm_m254_0 h) (by simp only [pm_hu h]) (by simp only [pm_hu h])
theorem pm_m40_0 {a : Bool} (h : j ≠ 0 + i) : pm_Qj aa j y v (q880_40 i a y v f) := by
  unfold q880_40
  repeat' split
  all_goals exact pm_m84_0 h
theorem pm_m880_0 (h : j ≠ 0 + i) : pm_Qj aa j y v (q880 i y v f) := by
  unfold q880
  repeat' split
  all_goals exact pm_m40_0 h
def pm_A0 (x : Nat → Nat → Int32) (w : Nat → Nat → Bool) (x' : Nat → Nat → Int32) (w' : Nat → Nat → Bool) : Prop := ∀ aa, ¬ (32 ≤ aa ∧ aa ≤ 46 ∧ aa % 2 = 0) → x' aa = x aa ∧ w' aa = w aa
def pm_CH0 (x : Nat → Nat → Int32) (w : Nat → Nat → Bool) (y : Nat → Nat → Int32) (v : Nat → Nat → Bool) (x' : Nat → Nat → Int32) (w' : Nat → Nat → Bool) (y' : Nat → Nat → Int32) (v' : Nat → Nat → Bool) : Prop := pm_A0 x w x' w' ∧ pm_AR y v y' v' ∧ ∀ k r, (k, r) ∈ pm_lf → pm_Lf k r x' w' y' v'
theorem pm_z31_0 : ∀ i, i < 8 → ¬ (((0 : Int32) >>> ((Int32.ofNat i) &&& 31)) &&& (1 : Int32)) = 1 := by decide +kernel
theorem pm_LP_0 : ∀ i, i < 8 → 32 + 2 * i ∈ pm_LP := by decide +kernel
def pm_bb0 (i : Int32) (x : Nat → Nat → Int32) (w : Nat → Nat → Bool) (f : Nat → Nat → Nat) : Bool := if (x 29 5) = 0 then false else (if (q3 31 i x w f) = true then false else true)
theorem pm_bb_0 (hi : i < 8) (hs : x 29 5 = y 69 0) (hn : pm_N 31 0 0 (pm_J x y) (pm_J w v)) (b0 : Bool) (hb : b0 = true ↔ (v 72 0 = true ∧ (((y 73 3) >>> ((Int32.ofNat i) &&& 31)) &&& (1 : Int32)) = 1)) : pm_bb0 (Int32.ofNat i) x w f = true ↔ ¬ y 69 0 = 0 ∧ b0 = false := by
  have e : q3 31 (Int32.ofNat i) x w f = b0 := by
    unfold q3
    rcases hn with ⟨n0, -, -, -, n3, -⟩ | ⟨n0, -, -, -, n3, -⟩
    · have n0' : v 72 0 = true := n0
      have n3' : x 31 3 = y 73 3 := n3
      rw [n3']
      by_cases g : (((y 73 3) >>> ((Int32.ofNat i) &&& 31)) &&& (1 : Int32)) = 1
      · rw [if_pos g, hb.mpr ⟨n0', g⟩]
      · rw [if_neg g]
        exact (Bool.eq_false_iff.mpr (fun q => g (hb.mp q).2)).symm
    · have n0' : v 72 0 = false := n0
      have n3' : x 31 3 = 0 := n3
      rw [n3', if_neg (pm_z31_0 i hi)]
      exact (Bool.eq_false_iff.mpr (fun q => by have := (hb.mp q).1; rw [n0'] at this; cases this)).symm
  unfold pm_bb0
  rw [e, hs]
  by_cases g : y 69 0 = 0
  · rw [if_pos g]
    exact ⟨fun q => (by cases q), fun q => absurd g q.1⟩
  · rw [if_neg g]
    cases b0
    · exact ⟨fun _ => ⟨g, rfl⟩, fun _ => rfl⟩
    · exact ⟨fun q => (by cases q), fun q => (by cases q.2)⟩
theorem pm_CHt_0 (hi : i < 8) (hs : x 29 5 = y 69 0) (hn : pm_N 31 0 0 (pm_J x y) (pm_J w v)) (hC : pm_CH0 x w y v x' w' y' v') : pm_CH0 x w y v (q7 (32 + 2 * i) (pm_bb0 (Int32.ofNat i) x' w' f) x' w' f).1 (q7 (32 + 2 * i) (pm_bb0 (Int32.ofNat i) x' w' f) x' w' f).2 (q880 i y' v' f).1 (q880 i y' v' f).2 := by
  obtain ⟨a1, a2, hl⟩ := hC
  have hs' : x' 29 5 = y' 69 0 := by rw [(a1 29 (by omega)).1, (a2 69 (by omega)).1]; exact hs
  have hn' : pm_N 31 0 0 (pm_J x' y') (pm_J w' v') := pm_N_c hn (fun r => show x' 31 r = x 31 r by rw [(a1 31 (by omega)).1]) (fun r => show w' 31 r = w 31 r by rw [(a1 31 (by omega)).2]) (show v' 72 0 = v 72 0 by rw [(a2 72 (by omega)).2]) (fun r _ => show y' 73 (0 + r) = y 73 (0 + r) by rw [(a2 73 (by omega)).1])
  have hk := pm_lf0 i hi
  refine ⟨fun aa ha => ?_, fun aa ha => ?_, fun k' r' hk' => ?_⟩
  · have g := l7 (32 + 2 * i) (pm_bb0 (Int32.ofNat i) x' w' f) x' w' f (pm_LP_0 i hi) aa (by omega)
    exact ⟨g.1.trans (a1 aa ha).1, g.2.trans (a1 aa ha).2⟩
  · have g := l880 i y' v' f hi aa ha
    exact ⟨g.1.trans (a2 aa ha).1, g.2.trans (a2 aa ha).2⟩
  · by_cases e : r' = 0 + i
    · have e2 : k' = 32 + 2 * i := (pm_lf_inj (k', r') hk' (32 + 2 * i, 0 + i) hk).mpr e
      subst e
      subst e2
      by_cases g : v' 72 0 = true ∧ (((y' 73 3) >>> ((Int32.ofNat i) &&& 31)) &&& (1 : Int32)) = 1
      · have e4 : q880 i y' v' f = q880_40 i true y' v' f := by
          unfold q880
          rw [if_pos g.1, if_pos g.2]
        rw [e4]
        exact pm_l40_0 (hl _ _ hk) (pm_bb_0 hi hs' hn' true ⟨fun _ => g, fun _ => rfl⟩)
      · have e4 : q880 i y' v' f = q880_40 i false y' v' f := by
          unfold q880
          by_cases g1 : v' 72 0 = true
          · rw [if_pos g1, if_neg (fun g2 => g ⟨g1, g2⟩)]
          · rw [if_neg g1]
        rw [e4]
        exact pm_l40_0 (hl _ _ hk) (pm_bb_0 hi hs' hn' false ⟨fun q => (by cases q), fun q => absurd q g⟩)
    · have e2 : k' ≠ 32 + 2 * i := fun g => e ((pm_lf_inj (k', r') hk' (32 + 2 * i, 0 + i) hk).mp g)
      have g := l7 (32 + 2 * i) (pm_bb0 (Int32.ofNat i) x' w' f) x' w' f (pm_LP_0 i hi) k' e2
      have m : ∀ aa, pm_Qj aa r' y' v' (q880 i y' v' f) := fun aa => pm_m880_0 e
      unfold pm_Lf
      rw [g.1, g.2, (m 76).1, (m 82).1, (m 83).1, (m 81).1, (m 79).2, (m 77).2, (m 78).2, (m 80).2]
      exact hl k' r' hk'
theorem pm_L7_0 {v0 : Int32} (hs : x 29 5 = y 69 0) (hn : pm_N 31 0 0 (pm_J x y) (pm_J w v)) (hC : pm_CH0 x w y v x' w' y' v') : pm_CH0 x w y v (q21a_58_6 x' w' f).1 (q21a_58_6 x' w' f).2 (q900_78_6 v0 y' v' f).2.1 (q900_78_6 v0 y' v' f).2.2 := by
  have e : q21a_58_6 x' w' f = q21a_55_7 (pm_bb0 (Int32.ofNat 7) x' w' f) x' w' f := by
    unfold q21a_58_6 pm_bb0
    by_cases g : x' 29 5 = 0
    · rw [if_pos g, if_pos g]
    · rw [if_neg g, if_neg g]
      by_cases g2 : q3 31 (Int32.ofNat 7) x' w' f = true
      · exact (if_pos g2).trans (by rw [if_pos g2])
      · exact (if_neg g2).trans (by rw [if_neg g2])
  rw [e]
  exact pm_CHt_0 (i := 7) (by omega) hs hn hC
theorem pm_L6_0 {v0 : Int32} (hs : x 29 5 = y 69 0) (hn : pm_N 31 0 0 (pm_J x y) (pm_J w v)) (hC : pm_CH0 x w y v x' w' y' v') : pm_CH0 x w y v (q21a_58_5 x' w' f).1 (q21a_58_5 x' w' f).2 (q900_78_5 v0 y' v' f).2.1 (q900_78_5 v0 y' v' f).2.2 := by
  have e : q21a_58_5 x' w' f = q21a_55_6 (pm_bb0 (Int32.ofNat 6) x' w' f) x' w' f := by
    unfold q21a_58_5 pm_bb0
    by_cases g : x' 29 5 = 0
    · rw [if_pos g, if_pos g]
    · rw [if_neg g, if_neg g]
      by_cases g2 : q3 31 (Int32.ofNat 6) x' w' f = true
      · exact (if_pos g2).trans (by rw [if_pos g2])
      · exact (if_neg g2).trans (by rw [if_neg g2])
  rw [e]
  exact pm_L7_0 hs hn (pm_CHt_0 (i := 6) (by omega) hs hn hC)
theorem pm_L5_0 {v0 : Int32} (hs : x 29 5 = y 69 0) (hn : pm_N 31 0 0 (pm_J x y) (pm_J w v)) (hC : pm_CH0 x w y v x' w' y' v') : pm_CH0 x w y v (q21a_58_4 x' w' f).1 (q21a_58_4 x' w' f).2 (q900_78_4 v0 y' v' f).2.1 (q900_78_4 v0 y' v' f).2.2 := by
  have e : q21a_58_4 x' w' f = q21a_55_5 (pm_bb0 (Int32.ofNat 5) x' w' f) x' w' f := by
    unfold q21a_58_4 pm_bb0
    by_cases g : x' 29 5 = 0
    · rw [if_pos g, if_pos g]
    · rw [if_neg g, if_neg g]
      by_cases g2 : q3 31 (Int32.ofNat 5) x' w' f = true
      · exact (if_pos g2).trans (by rw [if_pos g2])
      · exact (if_neg g2).trans (by rw [if_neg g2])
  rw [e]
  exact pm_L6_0 hs hn (pm_CHt_0 (i := 5) (by omega) hs hn hC)
theorem pm_L4_0 {v0 : Int32} (hs : x 29 5 = y 69 0) (hn : pm_N 31 0 0 (pm_J x y) (pm_J w v)) (hC : pm_CH0 x w y v x' w' y' v') : pm_CH0 x w y v (q21a_58_3 x' w' f).1 (q21a_58_3 x' w' f).2 (q900_78_3 v0 y' v' f).2.1 (q900_78_3 v0 y' v' f).2.2 := by
  have e : q21a_58_3 x' w' f = q21a_55_4 (pm_bb0 (Int32.ofNat 4) x' w' f) x' w' f := by
    unfold q21a_58_3 pm_bb0
    by_cases g : x' 29 5 = 0
    · rw [if_pos g, if_pos g]
    · rw [if_neg g, if_neg g]
      by_cases g2 : q3 31 (Int32.ofNat 4) x' w' f = true
      · exact (if_pos g2).trans (by rw [if_pos g2])
      · exact (if_neg g2).trans (by rw [if_neg g2])
  rw [e]
  exact pm_L5_0 hs hn (pm_CHt_0 (i := 4) (by omega) hs hn hC)
theorem pm_L3_0 {v0 : Int32} (hs : x 29 5 = y 69 0) (hn : pm_N 31 0 0 (pm_J x y) (pm_J w v)) (hC : pm_CH0 x w y v x' w' y' v') : pm_CH0 x w y v (q21a_58_2 x' w' f).1 (q21a_58_2 x' w' f).2 (q900_78_2 v0 y' v' f).2.1 (q900_78_2 v0 y' v' f).2.2 := by
  have e : q21a_58_2 x' w' f = q21a_55_3 (pm_bb0 (Int32.ofNat 3) x' w' f) x' w' f := by
    unfold q21a_58_2 pm_bb0
    by_cases g : x' 29 5 = 0
    · rw [if_pos g, if_pos g]
    · rw [if_neg g, if_neg g]
      by_cases g2 : q3 31 (Int32.ofNat 3) x' w' f = true
      · exact (if_pos g2).trans (by rw [if_pos g2])
      · exact (if_neg g2).trans (by rw [if_neg g2])
  rw [e]
  exact pm_L4_0 hs hn (pm_CHt_0 (i := 3) (by omega) hs hn hC)
theorem pm_L2_0 {v0 : Int32} (hs : x 29 5 = y 69 0) (hn : pm_N 31 0 0 (pm_J x y) (pm_J w v)) (hC : pm_CH0 x w y v x' w' y' v') : pm_CH0 x w y v (q21a_58_1 x' w' f).1 (q21a_58_1 x' w' f).2 (q900_78_1 v0 y' v' f).2.1 (q900_78_1 v0 y' v' f).2.2 := by
  have e : q21a_58_1 x' w' f = q21a_55_2 (pm_bb0 (Int32.ofNat 2) x' w' f) x' w' f := by
    unfold q21a_58_1 pm_bb0
    by_cases g : x' 29 5 = 0
    · rw [if_pos g, if_pos g]
    · rw [if_neg g, if_neg g]
      by_cases g2 : q3 31 (Int32.ofNat 2) x' w' f = true
      · exact (if_pos g2).trans (by rw [if_pos g2])
      · exact (if_neg g2).trans (by rw [if_neg g2])
  rw [e]
  exact pm_L3_0 hs hn (pm_CHt_0 (i := 2) (by omega) hs hn hC)
theorem pm_L1_0 {v0 : Int32} (hs : x 29 5 = y 69 0) (hn : pm_N 31 0 0 (pm_J x y) (pm_J w v)) (hC : pm_CH0 x w y v x' w' y' v') : pm_CH0 x w y v (q21a_58 x' w' f).1 (q21a_58 x' w' f).2 (q900_78 v0 y' v' f).2.1 (q900_78 v0 y' v' f).2.2 := by
  have e : q21a_58 x' w' f = q21a_55_1 (pm_bb0 (Int32.ofNat 1) x' w' f) x' w' f := by
    unfold q21a_58 pm_bb0
    by_cases g : x' 29 5 = 0
    · rw [if_pos g, if_pos g]
    · rw [if_neg g, if_neg g]
      by_cases g2 : q3 31 (Int32.ofNat 1) x' w' f = true
      · exact (if_pos g2).trans (by rw [if_pos g2])
      · exact (if_neg g2).trans (by rw [if_neg g2])
  rw [e]
  exact pm_L2_0 hs hn (pm_CHt_0 (i := 1) (by omega) hs hn hC)
theorem pm_L0_0 {v0 : Int32} (hs : x 29 5 = y 69 0) (hn : pm_N 31 0 0 (pm_J x y) (pm_J w v)) (hC : pm_CH0 x w y v x' w' y' v') : pm_CH0 x w y v (q21a_18 x' w' f).1 (q21a_18 x' w' f).2 (q900_64 v0 y' v' f).2.1 (q900_64 v0 y' v' f).2.2 := by
  have e : q21a_18 x' w' f = q21a_55 (pm_bb0 (Int32.ofNat 0) x' w' f) x' w' f := by
    unfold q21a_18 pm_bb0
    by_cases g : x' 29 5 = 0
    · rw [if_pos g, if_pos g]
    · rw [if_neg g, if_neg g]
      by_cases g2 : q3 31 (Int32.ofNat 0) x' w' f = true
      · exact (if_pos g2).trans (by rw [if_pos g2])
      · exact (if_neg g2).trans (by rw [if_neg g2])
  rw [e]
  exact pm_L1_0 hs hn (pm_CHt_0 (i := 0) (by omega) hs hn hC)
theorem pm_CHc_0 {v0 : Int32} (h : pm_R1 (pm_J x y)) (hb : pm_B1 (pm_J w v)) (hs : x 29 5 = y 69 0) (hn : pm_N 31 0 0 (pm_J x y) (pm_J w v)) : pm_CH0 x w y v (q21a_18 x w f).1 (q21a_18 x w f).2 (q900_64 v0 y v f).2.1 (q900_64 v0 y v f).2.2 := pm_L0_0 hs hn ⟨fun _ _ => ⟨rfl, rfl⟩, fun _ _ => ⟨rfl, rfl⟩, fun _ _ hk => pm_Lf_of h hb hk⟩
theorem pm_CHv_0 {v0 : Int32} : (q900_64 v0 y v f).1 = v0 := rfl
end PMC0
section PMC1
variable {x y x' y' : Nat → Nat → Int32} {w v w' v' : Nat → Nat → Bool} {f : Nat → Nat → Nat} {i aa j : Nat}
theorem pm_m325_1 {a b : Bool} {c d : Int32} (h : j ≠ 8 + i) : pm_Qj aa j y v (q881_325 i a b c d y v f) := by
  unfold q881_325
  split
  · exact ⟨by simp only [pm_hu h], rfl⟩
  · split
    · exact ⟨by simp only [pm_hu h], rfl⟩
    · exact ⟨by simp only [pm_hu h], rfl⟩
theorem pm_m304_1 {a b : Bool} (h : j ≠ 8 + i) : pm_Qj aa j y v (q881_304 i a b y v f) := by
  unfold q881_304
  split
  · exact pm_m325_1 h
  · exact pm_m325_1 h
theorem pm_m281_1 {a b : Bool} {c : Int32} (h : j ≠ 8 + i) : pm_Qj aa j y v (q881_281 i a b c y v f) := by
  unfold q881_281
  split
  · exact pm_Qj_t (pm_m304_1 h) (by simp only [pm_hu h]) (by simp only [pm_hu h])
  · exact pm_Qj_t (pm_m304_1 h) (by simp only [pm_hu h]) rfl
theorem pm_m254_1 {a b : Bool} (h : j ≠ 8 + i) : pm_Qj aa j y v (q881_254 i a b y v f) := by
  unfold q881_254
  split
  · exact pm_m281_1 h
  · exact pm_m281_1 h
theorem pm_m84_1 {a b : Bool} (h : j ≠ 8 + i) : pm_Qj aa j y v (q881_84 i a b y v f) := by
  unfold q881_84
  repeat' split
  all_goals exact pm_Qj_t (pm_m254_1 h) (by simp only [pm_hu h]) (by simp only [pm_hu h])
theorem pm_m40_1 {a : Bool} (h : j ≠ 8 + i) : pm_Qj aa j y v (q881_40 i a y v f) := by
  unfold q881_40
  repeat' split
  all_goals exact pm_m84_1 h
theorem pm_m881_1 (h : j ≠ 8 + i) : pm_Qj aa j y v (q881 i y v f) := by
  unfold q881
  repeat' split
  all_goals exact pm_m40_1 h
def pm_A1 (x : Nat → Nat → Int32) (w : Nat → Nat → Bool) (x' : Nat → Nat → Int32) (w' : Nat → Nat → Bool) : Prop := ∀ aa, ¬ (51 ≤ aa ∧ aa ≤ 65 ∧ aa % 2 = 1) → x' aa = x aa ∧ w' aa = w aa
def pm_CH1 (x : Nat → Nat → Int32) (w : Nat → Nat → Bool) (y : Nat → Nat → Int32) (v : Nat → Nat → Bool) (x' : Nat → Nat → Int32) (w' : Nat → Nat → Bool) (y' : Nat → Nat → Int32) (v' : Nat → Nat → Bool) : Prop := pm_A1 x w x' w' ∧ pm_AR y v y' v' ∧ ∀ k r, (k, r) ∈ pm_lf → pm_Lf k r x' w' y' v'
theorem pm_z31_1 : ∀ i, i < 8 → ¬ (((0 : Int32) >>> ((Int32.ofNat i) &&& 31)) &&& (1 : Int32)) = 1 := by decide +kernel
theorem pm_LP_1 : ∀ i, i < 8 → 51 + 2 * i ∈ pm_LP := by decide +kernel
def pm_bb1 (i : Int32) (x : Nat → Nat → Int32) (w : Nat → Nat → Bool) (f : Nat → Nat → Nat) : Bool := if (x 48 5) = 0 then false else (if (q3 50 i x w f) = true then false else true)
theorem pm_bb_1 (hi : i < 8) (hs : x 48 5 = y 69 1) (hn : pm_N 50 1 6 (pm_J x y) (pm_J w v)) (b0 : Bool) (hb : b0 = true ↔ (v 72 1 = true ∧ (((y 73 9) >>> ((Int32.ofNat i) &&& 31)) &&& (1 : Int32)) = 1)) : pm_bb1 (Int32.ofNat i) x w f = true ↔ ¬ y 69 1 = 0 ∧ b0 = false := by
  have e : q3 50 (Int32.ofNat i) x w f = b0 := by
    unfold q3
    rcases hn with ⟨n0, -, -, -, n3, -⟩ | ⟨n0, -, -, -, n3, -⟩
    · have n0' : v 72 1 = true := n0
      have n3' : x 50 3 = y 73 9 := n3
      rw [n3']
      by_cases g : (((y 73 9) >>> ((Int32.ofNat i) &&& 31)) &&& (1 : Int32)) = 1
      · rw [if_pos g, hb.mpr ⟨n0', g⟩]
      · rw [if_neg g]
        exact (Bool.eq_false_iff.mpr (fun q => g (hb.mp q).2)).symm
    · have n0' : v 72 1 = false := n0
      have n3' : x 50 3 = 0 := n3
      rw [n3', if_neg (pm_z31_1 i hi)]
      exact (Bool.eq_false_iff.mpr (fun q => by have := (hb.mp q).1; rw [n0'] at this; cases this)).symm
  unfold pm_bb1
  rw [e, hs]
  by_cases g : y 69 1 = 0
  · rw [if_pos g]
    exact ⟨fun q => (by cases q), fun q => absurd g q.1⟩
  · rw [if_neg g]
    cases b0
    · exact ⟨fun _ => ⟨g, rfl⟩, fun _ => rfl⟩
    · exact ⟨fun q => (by cases q), fun q => (by cases q.2)⟩
theorem pm_CHt_1 (hi : i < 8) (hs : x 48 5 = y 69 1) (hn : pm_N 50 1 6 (pm_J x y) (pm_J w v)) (hC : pm_CH1 x w y v x' w' y' v') : pm_CH1 x w y v (q7 (51 + 2 * i) (pm_bb1 (Int32.ofNat i) x' w' f) x' w' f).1 (q7 (51 + 2 * i) (pm_bb1 (Int32.ofNat i) x' w' f) x' w' f).2 (q881 i y' v' f).1 (q881 i y' v' f).2 := by
  obtain ⟨a1, a2, hl⟩ := hC
  have hs' : x' 48 5 = y' 69 1 := by rw [(a1 48 (by omega)).1, (a2 69 (by omega)).1]; exact hs
  have hn' : pm_N 50 1 6 (pm_J x' y') (pm_J w' v') := pm_N_c hn (fun r => show x' 50 r = x 50 r by rw [(a1 50 (by omega)).1]) (fun r => show w' 50 r = w 50 r by rw [(a1 50 (by omega)).2]) (show v' 72 1 = v 72 1 by rw [(a2 72 (by omega)).2]) (fun r _ => show y' 73 (6 + r) = y 73 (6 + r) by rw [(a2 73 (by omega)).1])
  have hk := pm_lf1 i hi
  refine ⟨fun aa ha => ?_, fun aa ha => ?_, fun k' r' hk' => ?_⟩
  · have g := l7 (51 + 2 * i) (pm_bb1 (Int32.ofNat i) x' w' f) x' w' f (pm_LP_1 i hi) aa (by omega)
    exact ⟨g.1.trans (a1 aa ha).1, g.2.trans (a1 aa ha).2⟩
  · have g := l881 i y' v' f hi aa ha
    exact ⟨g.1.trans (a2 aa ha).1, g.2.trans (a2 aa ha).2⟩
  · by_cases e : r' = 8 + i
    · have e2 : k' = 51 + 2 * i := (pm_lf_inj (k', r') hk' (51 + 2 * i, 8 + i) hk).mpr e
      subst e
      subst e2
      by_cases g : v' 72 1 = true ∧ (((y' 73 9) >>> ((Int32.ofNat i) &&& 31)) &&& (1 : Int32)) = 1
      · have e4 : q881 i y' v' f = q881_40 i true y' v' f := by
          unfold q881
          rw [if_pos g.1, if_pos g.2]
        rw [e4]
        exact pm_l40_1 (hl _ _ hk) (pm_bb_1 hi hs' hn' true ⟨fun _ => g, fun _ => rfl⟩)
      · have e4 : q881 i y' v' f = q881_40 i false y' v' f := by
          unfold q881
          by_cases g1 : v' 72 1 = true
          · rw [if_pos g1, if_neg (fun g2 => g ⟨g1, g2⟩)]
          · rw [if_neg g1]
        rw [e4]
        exact pm_l40_1 (hl _ _ hk) (pm_bb_1 hi hs' hn' false ⟨fun q => (by cases q), fun q => absurd q g⟩)
    · have e2 : k' ≠ 51 + 2 * i := fun g => e ((pm_lf_inj (k', r') hk' (51 + 2 * i, 8 + i) hk).mp g)
      have g := l7 (51 + 2 * i) (pm_bb1 (Int32.ofNat i) x' w' f) x' w' f (pm_LP_1 i hi) k' e2
      have m : ∀ aa, pm_Qj aa r' y' v' (q881 i y' v' f) := fun aa => pm_m881_1 e
      unfold pm_Lf
      rw [g.1, g.2, (m 76).1, (m 82).1, (m 83).1, (m 81).1, (m 79).2, (m 77).2, (m 78).2, (m 80).2]
      exact hl k' r' hk'
theorem pm_L7_1 {v0 : Int32} (hs : x 48 5 = y 69 1) (hn : pm_N 50 1 6 (pm_J x y) (pm_J w v)) (hC : pm_CH1 x w y v x' w' y' v') : pm_CH1 x w y v (q21b_58_6 x' w' f).1 (q21b_58_6 x' w' f).2 (q901_78_6 v0 y' v' f).2.1 (q901_78_6 v0 y' v' f).2.2 := by
  have e : q21b_58_6 x' w' f = q21b_55_7 (pm_bb1 (Int32.ofNat 7) x' w' f) x' w' f := by
    unfold q21b_58_6 pm_bb1
    by_cases g : x' 48 5 = 0
    · rw [if_pos g, if_pos g]
    · rw [if_neg g, if_neg g]
      by_cases g2 : q3 50 (Int32.ofNat 7) x' w' f = true
      · exact (if_pos g2).trans (by rw [if_pos g2])
      · exact (if_neg g2).trans (by rw [if_neg g2])
  rw [e]
  exact pm_CHt_1 (i := 7) (by omega) hs hn hC
theorem pm_L6_1 {v0 : Int32} (hs : x 48 5 = y 69 1) (hn : pm_N 50 1 6 (pm_J x y) (pm_J w v)) (hC : pm_CH1 x w y v x' w' y' v') : pm_CH1 x w y v (q21b_58_5 x' w' f).1 (q21b_58_5 x' w' f).2 (q901_78_5 v0 y' v' f).2.1 (q901_78_5 v0 y' v' f).2.2 := by
  have e : q21b_58_5 x' w' f = q21b_55_6 (pm_bb1 (Int32.ofNat 6) x' w' f) x' w' f := by
    unfold q21b_58_5 pm_bb1
    by_cases g : x' 48 5 = 0
    · rw [if_pos g, if_pos g]
    · rw [if_neg g, if_neg g]
      by_cases g2 : q3 50 (Int32.ofNat 6) x' w' f = true
      · exact (if_pos g2).trans (by rw [if_pos g2])
      · exact (if_neg g2).trans (by rw [if_neg g2])
  rw [e]
  exact pm_L7_1 hs hn (pm_CHt_1 (i := 6) (by omega) hs hn hC)
theorem pm_L5_1 {v0 : Int32} (hs : x 48 5 = y 69 1) (hn : pm_N 50 1 6 (pm_J x y) (pm_J w v)) (hC : pm_CH1 x w y v x' w' y' v') : pm_CH1 x w y v (q21b_58_4 x' w' f).1 (q21b_58_4 x' w' f).2 (q901_78_4 v0 y' v' f).2.1 (q901_78_4 v0 y' v' f).2.2 := by
  have e : q21b_58_4 x' w' f = q21b_55_5 (pm_bb1 (Int32.ofNat 5) x' w' f) x' w' f := by
    unfold q21b_58_4 pm_bb1
    by_cases g : x' 48 5 = 0
    · rw [if_pos g, if_pos g]
    · rw [if_neg g, if_neg g]
      by_cases g2 : q3 50 (Int32.ofNat 5) x' w' f = true
      · exact (if_pos g2).trans (by rw [if_pos g2])
      · exact (if_neg g2).trans (by rw [if_neg g2])
  rw [e]
  exact pm_L6_1 hs hn (pm_CHt_1 (i := 5) (by omega) hs hn hC)
theorem pm_L4_1 {v0 : Int32} (hs : x 48 5 = y 69 1) (hn : pm_N 50 1 6 (pm_J x y) (pm_J w v)) (hC : pm_CH1 x w y v x' w' y' v') : pm_CH1 x w y v (q21b_58_3 x' w' f).1 (q21b_58_3 x' w' f).2 (q901_78_3 v0 y' v' f).2.1 (q901_78_3 v0 y' v' f).2.2 := by
  have e : q21b_58_3 x' w' f = q21b_55_4 (pm_bb1 (Int32.ofNat 4) x' w' f) x' w' f := by
    unfold q21b_58_3 pm_bb1
    by_cases g : x' 48 5 = 0
    · rw [if_pos g, if_pos g]
    · rw [if_neg g, if_neg g]
      by_cases g2 : q3 50 (Int32.ofNat 4) x' w' f = true
      · exact (if_pos g2).trans (by rw [if_pos g2])
      · exact (if_neg g2).trans (by rw [if_neg g2])
  rw [e]
  exact pm_L5_1 hs hn (pm_CHt_1 (i := 4) (by omega) hs hn hC)
theorem pm_L3_1 {v0 : Int32} (hs : x 48 5 = y 69 1) (hn : pm_N 50 1 6 (pm_J x y) (pm_J w v)) (hC : pm_CH1 x w y v x' w' y' v') : pm_CH1 x w y v (q21b_58_2 x' w' f).1 (q21b_58_2 x' w' f).2 (q901_78_2 v0 y' v' f).2.1 (q901_78_2 v0 y' v' f).2.2 := by
  have e : q21b_58_2 x' w' f = q21b_55_3 (pm_bb1 (Int32.ofNat 3) x' w' f) x' w' f := by
    unfold q21b_58_2 pm_bb1
    by_cases g : x' 48 5 = 0
    · rw [if_pos g, if_pos g]
    · rw [if_neg g, if_neg g]
      by_cases g2 : q3 50 (Int32.ofNat 3) x' w' f = true
      · exact (if_pos g2).trans (by rw [if_pos g2])
      · exact (if_neg g2).trans (by rw [if_neg g2])
  rw [e]
  exact pm_L4_1 hs hn (pm_CHt_1 (i := 3) (by omega) hs hn hC)
theorem pm_L2_1 {v0 : Int32} (hs : x 48 5 = y 69 1) (hn : pm_N 50 1 6 (pm_J x y) (pm_J w v)) (hC : pm_CH1 x w y v x' w' y' v') : pm_CH1 x w y v (q21b_58_1 x' w' f).1 (q21b_58_1 x' w' f).2 (q901_78_1 v0 y' v' f).2.1 (q901_78_1 v0 y' v' f).2.2 := by
  have e : q21b_58_1 x' w' f = q21b_55_2 (pm_bb1 (Int32.ofNat 2) x' w' f) x' w' f := by
    unfold q21b_58_1 pm_bb1
    by_cases g : x' 48 5 = 0
    · rw [if_pos g, if_pos g]
    · rw [if_neg g, if_neg g]
      by_cases g2 : q3 50 (Int32.ofNat 2) x' w' f = true
      · exact (if_pos g2).trans (by rw [if_pos g2])
      · exact (if_neg g2).trans (by rw [if_neg g2])
  rw [e]
  exact pm_L3_1 hs hn (pm_CHt_1 (i := 2) (by omega) hs hn hC)
theorem pm_L1_1 {v0 : Int32} (hs : x 48 5 = y 69 1) (hn : pm_N 50 1 6 (pm_J x y) (pm_J w v)) (hC : pm_CH1 x w y v x' w' y' v') : pm_CH1 x w y v (q21b_58 x' w' f).1 (q21b_58 x' w' f).2 (q901_78 v0 y' v' f).2.1 (q901_78 v0 y' v' f).2.2 := by
  have e : q21b_58 x' w' f = q21b_55_1 (pm_bb1 (Int32.ofNat 1) x' w' f) x' w' f := by
    unfold q21b_58 pm_bb1
    by_cases g : x' 48 5 = 0
    · rw [if_pos g, if_pos g]
    · rw [if_neg g, if_neg g]
      by_cases g2 : q3 50 (Int32.ofNat 1) x' w' f = true
      · exact (if_pos g2).trans (by rw [if_pos g2])
      · exact (if_neg g2).trans (by rw [if_neg g2])
  rw [e]
  exact pm_L2_1 hs hn (pm_CHt_1 (i := 1) (by omega) hs hn hC)
theorem pm_L0_1 {v0 : Int32} (hs : x 48 5 = y 69 1) (hn : pm_N 50 1 6 (pm_J x y) (pm_J w v)) (hC : pm_CH1 x w y v x' w' y' v') : pm_CH1 x w y v (q21b_18 x' w' f).1 (q21b_18 x' w' f).2 (q901_64 v0 y' v' f).2.1 (q901_64 v0 y' v' f).2.2 := by
  have e : q21b_18 x' w' f = q21b_55 (pm_bb1 (Int32.ofNat 0) x' w' f) x' w' f := by
    unfold q21b_18 pm_bb1
    by_cases g : x' 48 5 = 0
    · rw [if_pos g, if_pos g]
    · rw [if_neg g, if_neg g]
      by_cases g2 : q3 50 (Int32.ofNat 0) x' w' f = true
      · exact (if_pos g2).trans (by rw [if_pos g2])
      · exact (if_neg g2).trans (by rw [if_neg g2])
  rw [e]
  exact pm_L1_1 hs hn (pm_CHt_1 (i := 0) (by omega) hs hn hC)
theorem pm_CHc_1 {v0 : Int32} (h : pm_R1 (pm_J x y)) (hb : pm_B1 (pm_J w v)) (hs : x 48 5 = y 69 1) (hn : pm_N 50 1 6 (pm_J x y) (pm_J w v)) : pm_CH1 x w y v (q21b_18 x w f).1 (q21b_18 x w f).2 (q901_64 v0 y v f).2.1 (q901_64 v0 y v f).2.2 := pm_L0_1 hs hn ⟨fun _ _ => ⟨rfl, rfl⟩, fun _ _ => ⟨rfl, rfl⟩, fun _ _ hk => pm_Lf_of h hb hk⟩
theorem pm_CHv_1 {v0 : Int32} : (q901_64 v0 y v f).1 = v0 := rfl
end PMC1

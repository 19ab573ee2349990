/-! A leaf's step: class against reference, each in its own memory. -/
def pm_Lf (k r : Nat) (x : Nat → Nat → Int32) (w : Nat → Nat → Bool) (y : Nat → Nat → Int32) (v : Nat → Nat → Bool) : Prop := (x k 1 = y 76 r ∧ 0 ≤ x k 1 ∧ x k 1 ≤ 100) ∧ x k 2 = y 82 r ∧ (x k 3 = y 83 r ∧ 0 ≤ x k 3 ∧ x k 3 ≤ 41) ∧ (x k 4 = y 81 r ∧ 0 ≤ x k 4 ∧ x k 4 ≤ 1000) ∧ w k 5 = v 79 r ∧ w k 6 = v 77 r ∧ w k 7 = v 78 r ∧ w k 8 = v 80 r
theorem pm_dd4 : ∀ n, n < 1001 → (if Int32.ofNat n ≤ 0 then Int32.ofNat n - 0 else Int32.ofNat n - 1) = (if 0 < Int32.ofNat n - 1 then Int32.ofNat n - 1 else 0) ∧ 0 ≤ (if 0 < Int32.ofNat n - 1 then Int32.ofNat n - 1 else 0) ∧ (if 0 < Int32.ofNat n - 1 then Int32.ofNat n - 1 else 0) ≤ 1000 := by decide +kernel
theorem pm_d4 {a : Int32} (h0 : 0 ≤ a) (h1 : a ≤ 1000) : (if a ≤ 0 then a - 0 else a - 1) = (if 0 < a - 1 then a - 1 else 0) ∧ 0 ≤ (if 0 < a - 1 then a - 1 else 0) ∧ (if 0 < a - 1 then a - 1 else 0) ≤ 1000 := by
  obtain ⟨n, hn, rfl⟩ := nI_of2 (M := 1000) (n := 1000) (by decide) (Int32.not_lt.mpr h0) h1
  exact pm_dd4 n (by omega)
theorem pm_dd3 : ∀ n, n < 42 → (if Int32.ofNat n ≤ 0 then 0 else Int32.ofNat n - 1) = (if 0 < Int32.ofNat n - 1 then Int32.ofNat n - 1 else 0) ∧ 0 ≤ (if 0 < Int32.ofNat n - 1 then Int32.ofNat n - 1 else 0) ∧ (if 0 < Int32.ofNat n - 1 then Int32.ofNat n - 1 else 0) ≤ 41 := by decide +kernel
theorem pm_d3 {a : Int32} (h0 : 0 ≤ a) (h1 : a ≤ 41) : (if a ≤ 0 then 0 else a - 1) = (if 0 < a - 1 then a - 1 else 0) ∧ 0 ≤ (if 0 < a - 1 then a - 1 else 0) ∧ (if 0 < a - 1 then a - 1 else 0) ≤ 41 := by
  obtain ⟨n, hn, rfl⟩ := nI_of2 (M := 41) (n := 41) (by decide) (Int32.not_lt.mpr h0) h1
  exact pm_dd3 n (by omega)
theorem pm_dd1 : ∀ n, n < 101 → (if Int32.ofNat n + 10 ≤ 100 then Int32.ofNat n + 10 else 100) = (if Int32.ofNat n + 10 < 100 then Int32.ofNat n + 10 else 100) ∧ 0 ≤ (if Int32.ofNat n + 10 < 100 then Int32.ofNat n + 10 else 100) ∧ (if Int32.ofNat n + 10 < 100 then Int32.ofNat n + 10 else 100) ≤ 100 := by decide +kernel
theorem pm_d1 {a : Int32} (h0 : 0 ≤ a) (h1 : a ≤ 100) : (if a + 10 ≤ 100 then a + 10 else 100) = (if a + 10 < 100 then a + 10 else 100) ∧ 0 ≤ (if a + 10 < 100 then a + 10 else 100) ∧ (if a + 10 < 100 then a + 10 else 100) ≤ 100 := by
  obtain ⟨n, hn, rfl⟩ := nI_of2 (M := 100) (n := 100) (by decide) (Int32.not_lt.mpr h0) h1
  exact pm_dd1 n (by omega)
theorem pm_dd2 : ∀ n, n < 101 → (if Int32.ofNat n + 5 ≤ 100 then Int32.ofNat n + 5 else 100) = (if Int32.ofNat n + 5 < 100 then Int32.ofNat n + 5 else 100) ∧ 0 ≤ (if Int32.ofNat n + 5 < 100 then Int32.ofNat n + 5 else 100) ∧ (if Int32.ofNat n + 5 < 100 then Int32.ofNat n + 5 else 100) ≤ 100 := by decide +kernel
theorem pm_d2 {a : Int32} (h0 : 0 ≤ a) (h1 : a ≤ 100) : (if a + 5 ≤ 100 then a + 5 else 100) = (if a + 5 < 100 then a + 5 else 100) ∧ 0 ≤ (if a + 5 < 100 then a + 5 else 100) ∧ (if a + 5 < 100 then a + 5 else 100) ≤ 100 := by
  obtain ⟨n, hn, rfl⟩ := nI_of2 (M := 100) (n := 100) (by decide) (Int32.not_lt.mpr h0) h1
  exact pm_dd2 n (by omega)
theorem pm_dd5 : ∀ n, n < 101 → ((Int32.ofNat n ≤ 5 ∧ (if 0 < Int32.ofNat n - 5 then Int32.ofNat n - 5 else 0) = 0) ∨ (¬ Int32.ofNat n ≤ 5 ∧ (if 0 < Int32.ofNat n - 5 then Int32.ofNat n - 5 else 0) = Int32.ofNat n - 5 ∧ Int32.ofNat n - 5 ≤ 100 ∧ 0 ≤ Int32.ofNat n - 5)) := by decide +kernel
theorem pm_d5 {a : Int32} (h0 : 0 ≤ a) (h1 : a ≤ 100) : (a ≤ 5 ∧ (if 0 < a - 5 then a - 5 else 0) = 0) ∨ (¬ a ≤ 5 ∧ (if 0 < a - 5 then a - 5 else 0) = a - 5 ∧ a - 5 ≤ 100 ∧ 0 ≤ a - 5) := by
  obtain ⟨n, hn, rfl⟩ := nI_of2 (M := 100) (n := 100) (by decide) (Int32.not_lt.mpr h0) h1
  exact pm_dd5 n (by omega)
section PML0
variable {x y : Nat → Nat → Int32} {w v : Nat → Nat → Bool} {f : Nat → Nat → Nat} {k i : Nat}
theorem pm_l48_0 {fe b b0 : Bool} (h1 : x k 1 = y 76 (0 + i) ∧ 0 ≤ x k 1 ∧ x k 1 ≤ 100) (h2 : x k 2 = y 82 (0 + i)) (h3 : (fe = true ∧ x k 3 = 41) ∨ (fe = false ∧ x k 3 = y 83 (0 + i) ∧ 0 ≤ x k 3 ∧ x k 3 ≤ 41)) (h4 : x k 4 = y 81 (0 + i) ∧ 0 ≤ x k 4 ∧ x k 4 ≤ 1000) (b5 : w k 5 = v 79 (0 + i)) (b6 : w k 6 = v 77 (0 + i)) (b7 : w k 7 = v 78 (0 + i)) (b8 : w k 8 = v 80 (0 + i)) : pm_Lf k (0 + i) (q7_48 k b x w f).1 (q7_48 k b x w f).2 (q880_304 i fe b0 y v f).1 (q880_304 i fe b0 y v f).2 := by
  have d4 := pm_d4 h4.2.1 h4.2.2
  have E3 : ∀ z : Int32, q880_325 i fe b0 z (y 81 (0 + i)) y v f = (pm_up (pm_up y 81 (0 + i) (y 81 (0 + i) - z)) 83 (0 + i) (if 0 < x k 3 - 1 then x k 3 - 1 else 0), v) := by
    intro z
    unfold q880_325
    rcases h3 with ⟨rfl, e⟩ | ⟨rfl, e, l, u⟩
    · rw [if_pos rfl, e]
      rfl
    · rw [if_neg Bool.false_ne_true, ← (pm_d3 l u).1, e]
      by_cases g : y 83 (0 + i) ≤ 0
      · rw [if_pos g, if_pos g]
      · rw [if_neg g, if_neg g]
  have E : q880_304 i fe b0 y v f = (pm_up (pm_up y 81 (0 + i) (if 0 < x k 4 - 1 then x k 4 - 1 else 0)) 83 (0 + i) (if 0 < x k 3 - 1 then x k 3 - 1 else 0), v) := by
    unfold q880_304
    rw [E3, E3, ← d4.1, h4.1]
    by_cases g : y 81 (0 + i) ≤ 0
    · rw [if_pos g, if_pos g]
    · rw [if_neg g, if_neg g]
  have B3 : 0 ≤ (if 0 < x k 3 - 1 then x k 3 - 1 else 0) ∧ (if 0 < x k 3 - 1 then x k 3 - 1 else 0) ≤ 41 := by
    rcases h3 with ⟨-, e⟩ | ⟨-, -, l, u⟩
    · rw [e]
      decide
    · exact (pm_d3 l u).2
  rw [E]
  have c1 : (q7_48 k b x w f).1 k 1 = x k 1 := by simp [q7_48, pm_up_eq]
  have c2 : (q7_48 k b x w f).1 k 2 = x k 2 := by simp [q7_48, pm_up_eq]
  have c3 : (q7_48 k b x w f).1 k 3 = (if 0 < x k 3 - 1 then x k 3 - 1 else 0) := by simp [q7_48, pm_up_eq]
  have c4 : (q7_48 k b x w f).1 k 4 = (if 0 < x k 4 - 1 then x k 4 - 1 else 0) := by simp [q7_48, pm_up_eq]
  have e1 : ∀ p q : Int32, pm_up (pm_up y 81 (0 + i) p) 83 (0 + i) q 76 (0 + i) = y 76 (0 + i) := fun p q => by simp [pm_up_eq]
  have e2 : ∀ p q : Int32, pm_up (pm_up y 81 (0 + i) p) 83 (0 + i) q 82 (0 + i) = y 82 (0 + i) := fun p q => by simp [pm_up_eq]
  have e3 : ∀ p q : Int32, pm_up (pm_up y 81 (0 + i) p) 83 (0 + i) q 83 (0 + i) = q := fun p q => by simp [pm_up_eq]
  have e4 : ∀ p q : Int32, pm_up (pm_up y 81 (0 + i) p) 83 (0 + i) q 81 (0 + i) = p := fun p q => by simp [pm_up_eq]
  unfold pm_Lf
  rw [c1, c2, c3, c4]
  dsimp only
  rw [e1, e2, e3, e4]
  exact ⟨h1, h2, ⟨rfl, B3⟩, ⟨rfl, d4.2⟩, b5, b6, b7, b8⟩
theorem pm_l31_0 {fe b b0 : Bool} (h1 : x k 1 = (if y 76 (0 + i) ≤ 100 then y 76 (0 + i) else 100) ∧ 0 ≤ x k 1 ∧ x k 1 ≤ 100) (h2 : x k 2 = y 82 (0 + i)) (h3 : (fe = true ∧ x k 3 = 41) ∨ (fe = false ∧ x k 3 = y 83 (0 + i) ∧ 0 ≤ x k 3 ∧ x k 3 ≤ 41)) (h4 : x k 4 = y 81 (0 + i) ∧ 0 ≤ x k 4 ∧ x k 4 ≤ 1000) (b5 : w k 5 = v 79 (0 + i)) (b6 : w k 6 = v 77 (0 + i)) (b7 : w k 7 = v 78 (0 + i)) (b8 : w k 8 = v 80 (0 + i)) : pm_Lf k (0 + i) (q7_31 k b x w f).1 (q7_31 k b x w f).2 (q880_254 i fe b0 y v f).1 (q880_254 i fe b0 y v f).2 := by
  have E : q880_254 i fe b0 y v f = q880_281 i fe b0 (x k 1) y v f := by
    unfold q880_254
    rw [h1.1]
    by_cases g : y 76 (0 + i) ≤ 100
    · rw [if_pos g, if_pos g]
    · rw [if_neg g, if_neg g]
  have e1 : pm_up y 76 (0 + i) (x k 1) 76 (0 + i) = x k 1 := by simp [pm_up_eq]
  have e2 : ∀ a, a ≠ 76 → pm_up y 76 (0 + i) (x k 1) a (0 + i) = y a (0 + i) := fun a h => by rw [pm_up_ne h]
  have E2 : q79 (0 + i) (pm_up y 76 (0 + i) (x k 1)) v f = q10 k x w f := by
    unfold q79 q10
    rw [e1, b5, b7]
  rw [E]
  unfold q880_281 q7_31
  rw [E2]
  by_cases g : q10 k x w f = true
  · rw [if_pos g, if_pos g]
    refine pm_l48_0 ⟨?_, ?_, ?_⟩ ?_ ?_ ⟨?_, ?_, ?_⟩ ?_ ?_ ?_ ?_
    · simp [pm_up_eq]
    · simp [pm_up_eq, h1.2.1]
    · simp [pm_up_eq, h1.2.2]
    · simp [pm_up_eq]
    · simpa [pm_up_eq] using h3
    · simpa [pm_up_eq] using h4.1
    · simpa [pm_up_eq] using h4.2.1
    · simpa [pm_up_eq] using h4.2.2
    · simpa [pm_up_eq] using b5
    · simpa [pm_up_eq] using b6
    · simpa [pm_up_eq] using b7
    · simp [pm_up_eq]
  · rw [if_neg g, if_neg g]
    refine pm_l48_0 ⟨?_, h1.2.1, h1.2.2⟩ ?_ ?_ ⟨?_, h4.2.1, h4.2.2⟩ b5 b6 b7 b8
    · simp [pm_up_eq]
    · simpa [pm_up_eq] using h2
    · simpa [pm_up_eq] using h3
    · simpa [pm_up_eq] using h4.1
theorem pm_l84_0 {b b0 wn : Bool} (h : pm_Lf k (0 + i) x w y v) : pm_Lf k (0 + i) (q7_24 k b wn x w f).1 (q7_24 k b wn x w f).2 (q880_84 i b0 wn y v f).1 (q880_84 i b0 wn y v f).2 := by
  obtain ⟨⟨p1, p2, p3⟩, h2, ⟨o1, o2, o3⟩, ⟨t1, t2, t3⟩, b5, b6, b7, b8⟩ := h
  have u5 : ∀ a : Bool, pm_up w k 5 a k 5 = a := fun a => by simp [pm_up_eq]
  have u6 : ∀ a : Bool, pm_up w k 5 a k 6 = w k 6 := fun a => by simp [pm_up_eq]
  have u7 : ∀ a : Bool, pm_up w k 5 a k 7 = w k 7 := fun a => by simp [pm_up_eq]
  have u8 : ∀ a : Bool, pm_up w k 5 a k 8 = w k 8 := fun a => by simp [pm_up_eq]
  have down : (¬ y 76 (0 + i) ≤ 0 → y 81 (0 + i) ≤ 0 ∨ 40 < y 76 (0 + i)) → w k 7 = false → wn = false → pm_Lf k (0 + i) (q7_31 k b (pm_up x k 1 (if 0 < ((x k 1) - (5 : Int32)) then (x k 1) - (5 : Int32) else 0)) (pm_up w k 5 wn) f).1 (q7_31 k b (pm_up x k 1 (if 0 < ((x k 1) - (5 : Int32)) then (x k 1) - (5 : Int32) else 0)) (pm_up w k 5 wn) f).2 (if (y 76 (0 + i)) ≤ 5 then q880_254 i false b0 (pm_up y 76 (0 + i) 0) (pm_up v 79 (0 + i) wn) f else q880_254 i false b0 (pm_up y 76 (0 + i) ((y 76 (0 + i)) - (5 : Int32))) (pm_up v 79 (0 + i) wn) f).1 (if (y 76 (0 + i)) ≤ 5 then q880_254 i false b0 (pm_up y 76 (0 + i) 0) (pm_up v 79 (0 + i) wn) f else q880_254 i false b0 (pm_up y 76 (0 + i) ((y 76 (0 + i)) - (5 : Int32))) (pm_up v 79 (0 + i) wn) f).2 := by
    intro _ _ _
    have d := pm_d5 p2 p3
    rw [p1] at d ⊢
    rcases d with ⟨g, e⟩ | ⟨g, e, l, u⟩
    · rw [if_pos g, e]
      refine pm_l31_0 ⟨?_, ?_, ?_⟩ ?_ (Or.inr ⟨rfl, ?_, ?_, ?_⟩) ⟨?_, ?_, ?_⟩ ?_ ?_ ?_ ?_
      · simp [pm_up_eq]
      · simp [pm_up_eq]
      · simp [pm_up_eq]
      · simpa [pm_up_eq] using h2
      · simpa [pm_up_eq] using o1
      · simpa [pm_up_eq] using o2
      · simpa [pm_up_eq] using o3
      · simpa [pm_up_eq] using t1
      · simpa [pm_up_eq] using t2
      · simpa [pm_up_eq] using t3
      · simp [pm_up_eq]
      · simpa [pm_up_eq] using b6
      · simpa [pm_up_eq] using b7
      · simpa [pm_up_eq] using b8
    · rw [if_neg g, e]
      refine pm_l31_0 ⟨?_, ?_, ?_⟩ ?_ (Or.inr ⟨rfl, ?_, ?_, ?_⟩) ⟨?_, ?_, ?_⟩ ?_ ?_ ?_ ?_
      · simp only [pm_up_eq, and_self, if_true]
        rw [if_pos l]
      · simp only [pm_up_eq, and_self, if_true]
        exact u
      · simp only [pm_up_eq, and_self, if_true]
        exact l
      · simpa [pm_up_eq] using h2
      · simpa [pm_up_eq] using o1
      · simpa [pm_up_eq] using o2
      · simpa [pm_up_eq] using o3
      · simpa [pm_up_eq] using t1
      · simpa [pm_up_eq] using t2
      · simpa [pm_up_eq] using t3
      · simp [pm_up_eq]
      · simpa [pm_up_eq] using b6
      · simpa [pm_up_eq] using b7
      · simpa [pm_up_eq] using b8
  unfold q7_24 q880_84 q8
  rw [u7, u5, b7]
  by_cases g7 : v 78 (0 + i) = true
  · rw [if_pos g7, if_pos g7]
    have d := pm_d1 p2 p3
    refine pm_l31_0 ⟨?_, ?_, ?_⟩ ?_ (Or.inr ⟨rfl, ?_, ?_, ?_⟩) ⟨?_, ?_, ?_⟩ ?_ ?_ ?_ ?_
    · simp only [pm_up_eq, and_self, if_true]
      rw [← d.1, p1]
    · simp only [pm_up_eq, and_self, if_true]
      exact d.2.1
    · simp only [pm_up_eq, and_self, if_true]
      exact d.2.2
    · simpa [pm_up_eq] using h2
    · simpa [pm_up_eq] using o1
    · simpa [pm_up_eq] using o2
    · simpa [pm_up_eq] using o3
    · simpa [pm_up_eq] using t1
    · simpa [pm_up_eq] using t2
    · simpa [pm_up_eq] using t3
    · simp [pm_up_eq]
    · simpa [pm_up_eq] using b6
    · simpa [pm_up_eq] using b7
    · simpa [pm_up_eq] using b8
  · have g7' : w k 7 = false := by
      rw [b7]
      exact Bool.eq_false_iff.mpr g7
    rw [if_neg g7, if_neg g7]
    by_cases g5 : wn = true
    · rw [if_pos g5, if_pos g5]
      have d := pm_d2 p2 p3
      refine pm_l31_0 ⟨?_, ?_, ?_⟩ ?_ (Or.inr ⟨rfl, ?_, ?_, ?_⟩) ⟨?_, ?_, ?_⟩ ?_ ?_ ?_ ?_
      · simp only [pm_up_eq, and_self, if_true]
        rw [← d.1, p1]
      · simp only [pm_up_eq, and_self, if_true]
        exact d.2.1
      · simp only [pm_up_eq, and_self, if_true]
        exact d.2.2
      · simpa [pm_up_eq] using h2
      · simpa [pm_up_eq] using o1
      · simpa [pm_up_eq] using o2
      · simpa [pm_up_eq] using o3
      · simpa [pm_up_eq] using t1
      · simpa [pm_up_eq] using t2
      · simpa [pm_up_eq] using t3
      · simp [pm_up_eq]
      · simpa [pm_up_eq] using b6
      · simpa [pm_up_eq] using b7
      · simpa [pm_up_eq] using b8
    · have g5' : wn = false := Bool.eq_false_iff.mpr g5
      rw [if_neg g5, if_neg g5]
      by_cases g0 : y 76 (0 + i) ≤ 0
      · rw [if_pos (show x k 1 ≤ 0 by rw [p1]; exact g0), if_pos g0]
        exact down (fun g => absurd g0 g) g7' g5'
      · rw [if_neg (show ¬ x k 1 ≤ 0 by rw [p1]; exact g0), if_neg g0]
        by_cases g1 : y 81 (0 + i) ≤ 0
        · rw [if_pos g1, if_pos (show x k 4 ≤ 0 by rw [t1]; exact g1)]
          have e : (if 40 < x k 1 then (pm_up x k 1 (if 0 < x k 1 - 5 then x k 1 - 5 else 0), pm_up w k 5 wn) else (pm_up x k 1 (if 0 < x k 1 - 5 then x k 1 - 5 else 0), pm_up w k 5 wn)) = (pm_up x k 1 (if 0 < x k 1 - 5 then x k 1 - 5 else 0), pm_up w k 5 wn) := by split <;> rfl
          rw [e]
          exact down (fun _ => Or.inl g1) g7' g5'
        · rw [if_neg g1, if_neg (show ¬ x k 4 ≤ 0 by rw [t1]; exact g1)]
          by_cases g2 : 40 < y 76 (0 + i)
          · rw [if_pos g2, if_pos (show 40 < x k 1 by rw [p1]; exact g2)]
            exact down (fun _ => Or.inr g2) g7' g5'
          · rw [if_neg g2, if_neg (show ¬ 40 < x k 1 by rw [p1]; exact g2)]
            have p4 : y 76 (0 + i) ≤ 100 := by rw [← p1]; exact p3
            unfold q8_78 q9
            rw [h2]
            by_cases g3 : 3 ≤ y 82 (0 + i)
            · rw [if_pos g3, if_pos g3]
              have e : (if v 80 (0 + i) = true then q880_254 i false b0 (pm_up y 82 (0 + i) ((y 82 (0 + i)) + (0 : Int32))) (pm_up (pm_up v 79 (0 + i) wn) 80 (0 + i) true) f else q880_254 i false b0 (pm_up y 82 (0 + i) ((y 82 (0 + i)) + (0 : Int32))) (pm_up (pm_up v 79 (0 + i) wn) 80 (0 + i) true) f) = q880_254 i false b0 (pm_up y 82 (0 + i) ((y 82 (0 + i)) + (0 : Int32))) (pm_up (pm_up v 79 (0 + i) wn) 80 (0 + i) true) f := by split <;> rfl
              rw [e]
              refine pm_l31_0 ⟨?_, ?_, ?_⟩ ?_ (Or.inr ⟨rfl, ?_, ?_, ?_⟩) ⟨?_, ?_, ?_⟩ ?_ ?_ ?_ ?_
              · rw [pm_up_ne (show (76 : Nat) ≠ 82 by decide), if_pos p4]
                exact p1
              · exact p2
              · exact p3
              · simp [pm_up_eq, h2]
              · simpa [pm_up_eq] using o1
              · exact o2
              · exact o3
              · simpa [pm_up_eq] using t1
              · exact t2
              · exact t3
              · simp [pm_up_eq]
              · simpa [pm_up_eq] using b6
              · simpa [pm_up_eq] using b7
              · simp [pm_up_eq]
            · rw [if_neg g3, if_neg g3]
              have e : (if v 80 (0 + i) = true then q880_254 i true b0 (pm_up y 82 (0 + i) ((y 82 (0 + i)) + (1 : Int32))) (pm_up (pm_up v 79 (0 + i) wn) 80 (0 + i) true) f else q880_254 i true b0 (pm_up y 82 (0 + i) ((y 82 (0 + i)) + (1 : Int32))) (pm_up (pm_up v 79 (0 + i) wn) 80 (0 + i) false) f) = q880_254 i true b0 (pm_up y 82 (0 + i) ((y 82 (0 + i)) + (1 : Int32))) (pm_up (pm_up v 79 (0 + i) wn) 80 (0 + i) (v 80 (0 + i))) f := by
                by_cases g : v 80 (0 + i) = true
                · rw [if_pos g, g]
                · rw [if_neg g, Bool.eq_false_iff.mpr g]
              rw [e]
              refine pm_l31_0 ⟨?_, ?_, ?_⟩ ?_ (Or.inl ⟨rfl, ?_⟩) ⟨?_, ?_, ?_⟩ ?_ ?_ ?_ ?_
              · refine Eq.trans (b := x k 1) (by simp [pm_up_eq]) ?_
                rw [pm_up_ne (show (76 : Nat) ≠ 82 by decide), if_pos p4]
                exact p1
              · simpa [pm_up_eq] using p2
              · simpa [pm_up_eq] using p3
              · simp [pm_up_eq, h2]
              · simp [pm_up_eq]
              · simpa [pm_up_eq] using t1
              · simpa [pm_up_eq] using t2
              · simpa [pm_up_eq] using t3
              · simp [pm_up_eq]
              · simpa [pm_up_eq] using b6
              · simpa [pm_up_eq] using b7
              · simpa [pm_up_eq] using b8
theorem pm_l40_0 {b b0 : Bool} (h : pm_Lf k (0 + i) x w y v) (hb : b = true ↔ ¬ y 69 0 = 0 ∧ b0 = false) : pm_Lf k (0 + i) (q7 k b x w f).1 (q7 k b x w f).2 (q880_40 i b0 y v f).1 (q880_40 i b0 y v f).2 := by
  have e : ∃ wn, q7 k b x w f = q7_24 k b wn x w f ∧ q880_40 i b0 y v f = q880_84 i b0 wn y v f := by
    have z : ∃ wn, (if x k 3 ≤ 0 then q7_24 k b false x w f else q7_24 k b true x w f) = q7_24 k b wn x w f ∧ (if y 83 (0 + i) ≤ 0 then q880_84 i b0 false y v f else q880_84 i b0 true y v f) = q880_84 i b0 wn y v f := by
      rw [h.2.2.1.1]
      by_cases g : y 83 (0 + i) ≤ 0
      · rw [if_pos g, if_pos g]
        exact ⟨false, rfl, rfl⟩
      · rw [if_neg g, if_neg g]
        exact ⟨true, rfl, rfl⟩
    have e6 : w k 6 = v 77 (0 + i) := h.2.2.2.2.2.1
    unfold q7 q880_40
    rw [e6]
    by_cases s0 : y 69 0 = 0
    · rw [if_pos s0, if_neg (show ¬ b = true from fun g => (hb.mp g).1 s0)]
      exact z
    · rw [if_neg s0]
      by_cases g6 : v 77 (0 + i) = true
      · rw [if_pos g6, if_pos g6]
        by_cases gb : b = true
        · rw [if_pos gb]
          exact z
        · rw [if_neg gb]
          exact z
      · rw [if_neg g6, if_neg g6]
        by_cases g0 : b0 = true
        · rw [if_pos g0, if_neg (show ¬ b = true from fun g => absurd (hb.mp g).2 (by rw [g0]; decide))]
          exact z
        · rw [if_neg g0, if_pos (hb.mpr ⟨s0, Bool.eq_false_iff.mpr g0⟩)]
          exact ⟨true, rfl, rfl⟩
  obtain ⟨wn, e1, e2⟩ := e
  rw [e1, e2]
  exact pm_l84_0 h
end PML0
section PML1
variable {x y : Nat → Nat → Int32} {w v : Nat → Nat → Bool} {f : Nat → Nat → Nat} {k i : Nat}
theorem pm_l48_1 {fe b b0 : Bool} (h1 : x k 1 = y 76 (8 + i) ∧ 0 ≤ x k 1 ∧ x k 1 ≤ 100) (h2 : x k 2 = y 82 (8 + i)) (h3 : (fe = true ∧ x k 3 = 41) ∨ (fe = false ∧ x k 3 = y 83 (8 + i) ∧ 0 ≤ x k 3 ∧ x k 3 ≤ 41)) (h4 : x k 4 = y 81 (8 + i) ∧ 0 ≤ x k 4 ∧ x k 4 ≤ 1000) (b5 : w k 5 = v 79 (8 + i)) (b6 : w k 6 = v 77 (8 + i)) (b7 : w k 7 = v 78 (8 + i)) (b8 : w k 8 = v 80 (8 + i)) : pm_Lf k (8 + i) (q7_48 k b x w f).1 (q7_48 k b x w f).2 (q881_304 i fe b0 y v f).1 (q881_304 i fe b0 y v f).2 := by
  have d4 := pm_d4 h4.2.1 h4.2.2
  have E3 : ∀ z : Int32, q881_325 i fe b0 z (y 81 (8 + i)) y v f = (pm_up (pm_up y 81 (8 + i) (y 81 (8 + i) - z)) 83 (8 + i) (if 0 < x k 3 - 1 then x k 3 - 1 else 0), v) := by
    intro z
    unfold q881_325
    rcases h3 with ⟨rfl, e⟩ | ⟨rfl, e, l, u⟩
    · rw [if_pos rfl, e]
      rfl
    · rw [if_neg Bool.false_ne_true, ← (pm_d3 l u).1, e]
      by_cases g : y 83 (8 + i) ≤ 0
      · rw [if_pos g, if_pos g]
      · rw [if_neg g, if_neg g]
  have E : q881_304 i fe b0 y v f = (pm_up (pm_up y 81 (8 + i) (if 0 < x k 4 - 1 then x k 4 - 1 else 0)) 83 (8 + i) (if 0 < x k 3 - 1 then x k 3 - 1 else 0), v) := by
    unfold q881_304
    rw [E3, E3, ← d4.1, h4.1]
    by_cases g : y 81 (8 + i) ≤ 0
    · rw [if_pos g, if_pos g]
    · rw [if_neg g, if_neg g]
  have B3 : 0 ≤ (if 0 < x k 3 - 1 then x k 3 - 1 else 0) ∧ (if 0 < x k 3 - 1 then x k 3 - 1 else 0) ≤ 41 := by
    rcases h3 with ⟨-, e⟩ | ⟨-, -, l, u⟩
    · rw [e]
      decide
    · exact (pm_d3 l u).2
  rw [E]
  have c1 : (q7_48 k b x w f).1 k 1 = x k 1 := by simp [q7_48, pm_up_eq]
  have c2 : (q7_48 k b x w f).1 k 2 = x k 2 := by simp [q7_48, pm_up_eq]
  have c3 : (q7_48 k b x w f).1 k 3 = (if 0 < x k 3 - 1 then x k 3 - 1 else 0) := by simp [q7_48, pm_up_eq]
  have c4 : (q7_48 k b x w f).1 k 4 = (if 0 < x k 4 - 1 then x k 4 - 1 else 0) := by simp [q7_48, pm_up_eq]
  have e1 : ∀ p q : Int32, pm_up (pm_up y 81 (8 + i) p) 83 (8 + i) q 76 (8 + i) = y 76 (8 + i) := fun p q => by simp [pm_up_eq]
  have e2 : ∀ p q : Int32, pm_up (pm_up y 81 (8 + i) p) 83 (8 + i) q 82 (8 + i) = y 82 (8 + i) := fun p q => by simp [pm_up_eq]
  have e3 : ∀ p q : Int32, pm_up (pm_up y 81 (8 + i) p) 83 (8 + i) q 83 (8 + i) = q := fun p q => by simp [pm_up_eq]
  have e4 : ∀ p q : Int32, pm_up (pm_up y 81 (8 + i) p) 83 (8 + i) q 81 (8 + i) = p := fun p q => by simp [pm_up_eq]
  unfold pm_Lf
  rw [c1, c2, c3, c4]
  dsimp only
  rw [e1, e2, e3, e4]
  exact ⟨h1, h2, ⟨rfl, B3⟩, ⟨rfl, d4.2⟩, b5, b6, b7, b8⟩
theorem pm_l31_1 {fe b b0 : Bool} (h1 : x k 1 = (if y 76 (8 + i) ≤ 100 then y 76 (8 + i) else 100) ∧ 0 ≤ x k 1 ∧ x k 1 ≤ 100) (h2 : x k 2 = y 82 (8 + i)) (h3 : (fe = true ∧ x k 3 = 41) ∨ (fe = false ∧ x k 3 = y 83 (8 + i) ∧ 0 ≤ x k 3 ∧ x k 3 ≤ 41)) (h4 : x k 4 = y 81 (8 + i) ∧ 0 ≤ x k 4 ∧ x k 4 ≤ 1000) (b5 : w k 5 = v 79 (8 + i)) (b6 : w k 6 = v 77 (8 + i)) (b7 : w k 7 = v 78 (8 + i)) (b8 : w k 8 = v 80 (8 + i)) : pm_Lf k (8 + i) (q7_31 k b x w f).1 (q7_31 k b x w f).2 (q881_254 i fe b0 y v f).1 (q881_254 i fe b0 y v f).2 := by
  have E : q881_254 i fe b0 y v f = q881_281 i fe b0 (x k 1) y v f := by
    unfold q881_254
    rw [h1.1]
    by_cases g : y 76 (8 + i) ≤ 100
    · rw [if_pos g, if_pos g]
    · rw [if_neg g, if_neg g]
  have e1 : pm_up y 76 (8 + i) (x k 1) 76 (8 + i) = x k 1 := by simp [pm_up_eq]
  have e2 : ∀ a, a ≠ 76 → pm_up y 76 (8 + i) (x k 1) a (8 + i) = y a (8 + i) := fun a h => by rw [pm_up_ne h]
  have E2 : q79 (8 + i) (pm_up y 76 (8 + i) (x k 1)) v f = q10 k x w f := by
    unfold q79 q10
    rw [e1, b5, b7]
  rw [E]
  unfold q881_281 q7_31
  rw [E2]
  by_cases g : q10 k x w f = true
  · rw [if_pos g, if_pos g]
    refine pm_l48_1 ⟨?_, ?_, ?_⟩ ?_ ?_ ⟨?_, ?_, ?_⟩ ?_ ?_ ?_ ?_
    · simp [pm_up_eq]
    · simp [pm_up_eq, h1.2.1]
    · simp [pm_up_eq, h1.2.2]
    · simp [pm_up_eq]
    · simpa [pm_up_eq] using h3
    · simpa [pm_up_eq] using h4.1
    · simpa [pm_up_eq] using h4.2.1
    · simpa [pm_up_eq] using h4.2.2
    · simpa [pm_up_eq] using b5
    · simpa [pm_up_eq] using b6
    · simpa [pm_up_eq] using b7
    · simp [pm_up_eq]
  · rw [if_neg g, if_neg g]
    refine pm_l48_1 ⟨?_, h1.2.1, h1.2.2⟩ ?_ ?_ ⟨?_, h4.2.1, h4.2.2⟩ b5 b6 b7 b8
    · simp [pm_up_eq]
    · simpa [pm_up_eq] using h2
    · simpa [pm_up_eq] using h3
    · simpa [pm_up_eq] using h4.1
theorem pm_l84_1 {b b0 wn : Bool} (h : pm_Lf k (8 + i) x w y v) : pm_Lf k (8 + i) (q7_24 k b wn x w f).1 (q7_24 k b wn x w f).2 (q881_84 i b0 wn y v f).1 (q881_84 i b0 wn y v f).2 := by
  obtain ⟨⟨p1, p2, p3⟩, h2, ⟨o1, o2, o3⟩, ⟨t1, t2, t3⟩, b5, b6, b7, b8⟩ := h
  have u5 : ∀ a : Bool, pm_up w k 5 a k 5 = a := fun a => by simp [pm_up_eq]
  have u6 : ∀ a : Bool, pm_up w k 5 a k 6 = w k 6 := fun a => by simp [pm_up_eq]
  have u7 : ∀ a : Bool, pm_up w k 5 a k 7 = w k 7 := fun a => by simp [pm_up_eq]
  have u8 : ∀ a : Bool, pm_up w k 5 a k 8 = w k 8 := fun a => by simp [pm_up_eq]
  have down : (¬ y 76 (8 + i) ≤ 0 → y 81 (8 + i) ≤ 0 ∨ 40 < y 76 (8 + i)) → w k 7 = false → wn = false → pm_Lf k (8 + i) (q7_31 k b (pm_up x k 1 (if 0 < ((x k 1) - (5 : Int32)) then (x k 1) - (5 : Int32) else 0)) (pm_up w k 5 wn) f).1 (q7_31 k b (pm_up x k 1 (if 0 < ((x k 1) - (5 : Int32)) then (x k 1) - (5 : Int32) else 0)) (pm_up w k 5 wn) f).2 (if (y 76 (8 + i)) ≤ 5 then q881_254 i false b0 (pm_up y 76 (8 + i) 0) (pm_up v 79 (8 + i) wn) f else q881_254 i false b0 (pm_up y 76 (8 + i) ((y 76 (8 + i)) - (5 : Int32))) (pm_up v 79 (8 + i) wn) f).1 (if (y 76 (8 + i)) ≤ 5 then q881_254 i false b0 (pm_up y 76 (8 + i) 0) (pm_up v 79 (8 + i) wn) f else q881_254 i false b0 (pm_up y 76 (8 + i) ((y 76 (8 + i)) - (5 : Int32))) (pm_up v 79 (8 + i) wn) f).2 := by
    intro _ _ _
    have d := pm_d5 p2 p3
    rw [p1] at d ⊢
    rcases d with ⟨g, e⟩ | ⟨g, e, l, u⟩
    · rw [if_pos g, e]
      refine pm_l31_1 ⟨?_, ?_, ?_⟩ ?_ (Or.inr ⟨rfl, ?_, ?_, ?_⟩) ⟨?_, ?_, ?_⟩ ?_ ?_ ?_ ?_
      · simp [pm_up_eq]
      · simp [pm_up_eq]
      · simp [pm_up_eq]
      · simpa [pm_up_eq] using h2
      · simpa [pm_up_eq] using o1
      · simpa [pm_up_eq] using o2
      · simpa [pm_up_eq] using o3
      · simpa [pm_up_eq] using t1
      · simpa [pm_up_eq] using t2
      · simpa [pm_up_eq] using t3
      · simp [pm_up_eq]
      · simpa [pm_up_eq] using b6
      · simpa [pm_up_eq] using b7
      · simpa [pm_up_eq] using b8
    · rw [if_neg g, e]
      refine pm_l31_1 ⟨?_, ?_, ?_⟩ ?_ (Or.inr ⟨rfl, ?_, ?_, ?_⟩) ⟨?_, ?_, ?_⟩ ?_ ?_ ?_ ?_
      · simp only [pm_up_eq, and_self, if_true]
        rw [if_pos l]
      · simp only [pm_up_eq, and_self, if_true]
        exact u
      · simp only [pm_up_eq, and_self, if_true]
        exact l
      · simpa [pm_up_eq] using h2
      · simpa [pm_up_eq] using o1
      · simpa [pm_up_eq] using o2
      · simpa [pm_up_eq] using o3
      · simpa [pm_up_eq] using t1
      · simpa [pm_up_eq] using t2
      · simpa [pm_up_eq] using t3
      · simp [pm_up_eq]
      · simpa [pm_up_eq] using b6
      · simpa [pm_up_eq] using b7
      · simpa [pm_up_eq] using b8
  unfold q7_24 q881_84 q8
  rw [u7, u5, b7]
  by_cases g7 : v 78 (8 + i) = true
  · rw [if_pos g7, if_pos g7]
    have d := pm_d1 p2 p3
    refine pm_l31_1 ⟨?_, ?_, ?_⟩ ?_ (Or.inr ⟨rfl, ?_, ?_, ?_⟩) ⟨?_, ?_, ?_⟩ ?_ ?_ ?_ ?_
    · simp only [pm_up_eq, and_self, if_true]
      rw [← d.1, p1]
    · simp only [pm_up_eq, and_self, if_true]
      exact d.2.1
    · simp only [pm_up_eq, and_self, if_true]
      exact d.2.2
    · simpa [pm_up_eq] using h2
    · simpa [pm_up_eq] using o1
    · simpa [pm_up_eq] using o2
    · simpa [pm_up_eq] using o3
    · simpa [pm_up_eq] using t1
    · simpa [pm_up_eq] using t2
    · simpa [pm_up_eq] using t3
    · simp [pm_up_eq]
    · simpa [pm_up_eq] using b6
    · simpa [pm_up_eq] using b7
    · simpa [pm_up_eq] using b8
  · have g7' : w k 7 = false := by
      rw [b7]
      exact Bool.eq_false_iff.mpr g7
    rw [if_neg g7, if_neg g7]
    by_cases g5 : wn = true
    · rw [if_pos g5, if_pos g5]
      have d := pm_d2 p2 p3
      refine pm_l31_1 ⟨?_, ?_, ?_⟩ ?_ (Or.inr ⟨rfl, ?_, ?_, ?_⟩) ⟨?_, ?_, ?_⟩ ?_ ?_ ?_ ?_
      · simp only [pm_up_eq, and_self, if_true]
        rw [← d.1, p1]
      · simp only [pm_up_eq, and_self, if_true]
        exact d.2.1
      · simp only [pm_up_eq, and_self, if_true]
        exact d.2.2
      · simpa [pm_up_eq] using h2
      · simpa [pm_up_eq] using o1
      · simpa [pm_up_eq] using o2
      · simpa [pm_up_eq] using o3
      · simpa [pm_up_eq] using t1
      · simpa [pm_up_eq] using t2
      · simpa [pm_up_eq] using t3
      · simp [pm_up_eq]
      · simpa [pm_up_eq] using b6
      · simpa [pm_up_eq] using b7
      · simpa [pm_up_eq] using b8
    · have g5' : wn = false := Bool.eq_false_iff.mpr g5
      rw [if_neg g5, if_neg g5]
      by_cases g0 : y 76 (8 + i) ≤ 0
      · rw [if_pos (show x k 1 ≤ 0 by rw [p1]; exact g0), if_pos g0]
        exact down (fun g => absurd g0 g) g7' g5'
      · rw [if_neg (show ¬ x k 1 ≤ 0 by rw [p1]; exact g0), if_neg g0]
        by_cases g1 : y 81 (8 + i) ≤ 0
        · rw [if_pos g1, if_pos (show x k 4 ≤ 0 by rw [t1]; exact g1)]
          have e : (if 40 < x k 1 then (pm_up x k 1 (if 0 < x k 1 - 5 then x k 1 - 5 else 0), pm_up w k 5 wn) else (pm_up x k 1 (if 0 < x k 1 - 5 then x k 1 - 5 else 0), pm_up w k 5 wn)) = (pm_up x k 1 (if 0 < x k 1 - 5 then x k 1 - 5 else 0), pm_up w k 5 wn) := by split <;> rfl
          rw [e]
          exact down (fun _ => Or.inl g1) g7' g5'
        · rw [if_neg g1, if_neg (show ¬ x k 4 ≤ 0 by rw [t1]; exact g1)]
          by_cases g2 : 40 < y 76 (8 + i)
          · rw [if_pos g2, if_pos (show 40 < x k 1 by rw [p1]; exact g2)]
            exact down (fun _ => Or.inr g2) g7' g5'
          · rw [if_neg g2, if_neg (show ¬ 40 < x k 1 by rw [p1]; exact g2)]
            have p4 : y 76 (8 + i) ≤ 100 := by rw [← p1]; exact p3
            unfold q8_78 q9
            rw [h2]
            by_cases g3 : 3 ≤ y 82 (8 + i)
            · rw [if_pos g3, if_pos g3]
              have e : (if v 80 (8 + i) = true then q881_254 i false b0 (pm_up y 82 (8 + i) ((y 82 (8 + i)) + (0 : Int32))) (pm_up (pm_up v 79 (8 + i) wn) 80 (8 + i) true) f else q881_254 i false b0 (pm_up y 82 (8 + i) ((y 82 (8 + i)) + (0 : Int32))) (pm_up (pm_up v 79 (8 + i) wn) 80 (8 + i) true) f) = q881_254 i false b0 (pm_up y 82 (8 + i) ((y 82 (8 + i)) + (0 : Int32))) (pm_up (pm_up v 79 (8 + i) wn) 80 (8 + i) true) f := by split <;> rfl
              rw [e]
              refine pm_l31_1 ⟨?_, ?_, ?_⟩ ?_ (Or.inr ⟨rfl, ?_, ?_, ?_⟩) ⟨?_, ?_, ?_⟩ ?_ ?_ ?_ ?_
              · rw [pm_up_ne (show (76 : Nat) ≠ 82 by decide), if_pos p4]
                exact p1
              · exact p2
              · exact p3
              · simp [pm_up_eq, h2]
              · simpa [pm_up_eq] using o1
              · exact o2
              · exact o3
              · simpa [pm_up_eq] using t1
              · exact t2
              · exact t3
              · simp [pm_up_eq]
              · simpa [pm_up_eq] using b6
              · simpa [pm_up_eq] using b7
              · simp [pm_up_eq]
            · rw [if_neg g3, if_neg g3]
              have e : (if v 80 (8 + i) = true then q881_254 i true b0 (pm_up y 82 (8 + i) ((y 82 (8 + i)) + (1 : Int32))) (pm_up (pm_up v 79 (8 + i) wn) 80 (8 + i) true) f else q881_254 i true b0 (pm_up y 82 (8 + i) ((y 82 (8 + i)) + (1 : Int32))) (pm_up (pm_up v 79 (8 + i) wn) 80 (8 + i) false) f) = q881_254 i true b0 (pm_up y 82 (8 + i) ((y 82 (8 + i)) + (1 : Int32))) (pm_up (pm_up v 79 (8 + i) wn) 80 (8 + i) (v 80 (8 + i))) f := by
                by_cases g : v 80 (8 + i) = true
                · rw [if_pos g, g]
                · rw [if_neg g, Bool.eq_false_iff.mpr g]
              rw [e]
              refine pm_l31_1 ⟨?_, ?_, ?_⟩ ?_ (Or.inl ⟨rfl, ?_⟩) ⟨?_, ?_, ?_⟩ ?_ ?_ ?_ ?_
              · refine Eq.trans (b := x k 1) (by simp [pm_up_eq]) ?_
                rw [pm_up_ne (show (76 : Nat) ≠ 82 by decide), if_pos p4]
                exact p1
              · simpa [pm_up_eq] using p2
              · simpa [pm_up_eq] using p3
              · simp [pm_up_eq, h2]
              · simp [pm_up_eq]
              · simpa [pm_up_eq] using t1
              · simpa [pm_up_eq] using t2
              · simpa [pm_up_eq] using t3
              · simp [pm_up_eq]
              · simpa [pm_up_eq] using b6
              · simpa [pm_up_eq] using b7
              · simpa [pm_up_eq] using b8
theorem pm_l40_1 {b b0 : Bool} (h : pm_Lf k (8 + i) x w y v) (hb : b = true ↔ ¬ y 69 1 = 0 ∧ b0 = false) : pm_Lf k (8 + i) (q7 k b x w f).1 (q7 k b x w f).2 (q881_40 i b0 y v f).1 (q881_40 i b0 y v f).2 := by
  have e : ∃ wn, q7 k b x w f = q7_24 k b wn x w f ∧ q881_40 i b0 y v f = q881_84 i b0 wn y v f := by
    have z : ∃ wn, (if x k 3 ≤ 0 then q7_24 k b false x w f else q7_24 k b true x w f) = q7_24 k b wn x w f ∧ (if y 83 (8 + i) ≤ 0 then q881_84 i b0 false y v f else q881_84 i b0 true y v f) = q881_84 i b0 wn y v f := by
      rw [h.2.2.1.1]
      by_cases g : y 83 (8 + i) ≤ 0
      · rw [if_pos g, if_pos g]
        exact ⟨false, rfl, rfl⟩
      · rw [if_neg g, if_neg g]
        exact ⟨true, rfl, rfl⟩
    have e6 : w k 6 = v 77 (8 + i) := h.2.2.2.2.2.1
    unfold q7 q881_40
    rw [e6]
    by_cases s0 : y 69 1 = 0
    · rw [if_pos s0, if_neg (show ¬ b = true from fun g => (hb.mp g).1 s0)]
      exact z
    · rw [if_neg s0]
      by_cases g6 : v 77 (8 + i) = true
      · rw [if_pos g6, if_pos g6]
        by_cases gb : b = true
        · rw [if_pos gb]
          exact z
        · rw [if_neg gb]
          exact z
      · rw [if_neg g6, if_neg g6]
        by_cases g0 : b0 = true
        · rw [if_pos g0, if_neg (show ¬ b = true from fun g => absurd (hb.mp g).2 (by rw [g0]; decide))]
          exact z
        · rw [if_neg g0, if_pos (hb.mpr ⟨s0, Bool.eq_false_iff.mpr g0⟩)]
          exact ⟨true, rfl, rfl⟩
  obtain ⟨wn, e1, e2⟩ := e
  rw [e1, e2]
  exact pm_l84_1 h
end PML1

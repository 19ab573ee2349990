/-! deliver. -/
theorem pm_tk_c {M M' : Nat → Nat → Int32} {lo hi s : Nat} {v : Int32} (h : ∀ k i, pm_fl k = false → M k i = M' k i) : ∀ k i, pm_fl k = false → pm_up (pm_tk M lo hi) 74 s v k i = pm_up (pm_tk M' lo hi) 74 s v k i := by
  intro k i g
  rw [pm_up_eq, pm_up_eq]
  by_cases g1 : k = 74 ∧ i = s
  · rw [if_pos g1, if_pos g1]
  · rw [if_neg g1, if_neg g1]
    unfold pm_tk
    by_cases g2 : k = 75 ∧ lo ≤ i ∧ i < hi
    · rw [if_pos g2, if_pos g2]
      exact h 75 _ (by decide)
    · rw [if_neg g2, if_neg g2]
      exact h k i g
theorem pm_tk_t {M : Nat → Nat → Int32} {lo hi s : Nat} {v : Int32} {k : Nat} (h : pm_fl k = true) (i : Nat) : pm_up (pm_tk M lo hi) 74 s v k i = M k i := by
  have g2 : k ≠ 74 := fun e => by rw [e] at h; exact absurd h (by decide)
  have g3 : k ≠ 75 := fun e => by rw [e] at h; exact absurd h (by decide)
  rw [pm_up_ne g2]
  unfold pm_tk
  rw [if_neg (fun q => g3 q.1)]
def pm_s6 (x : Nat → Nat → Int32) (t u : Nat) : Nat → Nat → Int32 := pm_up (pm_up (pm_up (pm_up (pm_up (pm_up x 73 t (x 75 u)) 73 (t + 1) (x 75 (u + 1))) 73 (t + 2) (x 75 (u + 2))) 73 (t + 3) (x 75 (u + 3))) 73 (t + 4) (x 75 (u + 4))) 73 (t + 5) (x 75 (u + 5))
theorem pm_s6_ne {x : Nat → Nat → Int32} {t u k i : Nat} (h : k ≠ 73 ∨ i < t ∨ t + 5 < i) : pm_s6 x t u k i = x k i := by
  unfold pm_s6
  rw [pm_up_eq, if_neg (by omega), pm_up_eq, if_neg (by omega), pm_up_eq, if_neg (by omega), pm_up_eq, if_neg (by omega), pm_up_eq, if_neg (by omega), pm_up_eq, if_neg (by omega)]
theorem pm_s6_at {x : Nat → Nat → Int32} {t u : Nat} (r : Nat) (hr : r < 6) : pm_s6 x t u 73 (t + r) = x 75 (u + r) := by
  have c : r = 0 ∨ r = 1 ∨ r = 2 ∨ r = 3 ∨ r = 4 ∨ r = 5 := by omega
  unfold pm_s6
  rcases c with rfl | rfl | rfl | rfl | rfl | rfl
  · rw [pm_up_eq, if_neg (by omega), pm_up_eq, if_neg (by omega), pm_up_eq, if_neg (by omega), pm_up_eq, if_neg (by omega), pm_up_eq, if_neg (by omega), pm_up_eq, if_pos (by omega)]; rfl
  · rw [pm_up_eq, if_neg (by omega), pm_up_eq, if_neg (by omega), pm_up_eq, if_neg (by omega), pm_up_eq, if_neg (by omega), pm_up_eq, if_pos (by omega)]
  · rw [pm_up_eq, if_neg (by omega), pm_up_eq, if_neg (by omega), pm_up_eq, if_neg (by omega), pm_up_eq, if_pos (by omega)]
  · rw [pm_up_eq, if_neg (by omega), pm_up_eq, if_neg (by omega), pm_up_eq, if_pos (by omega)]
  · rw [pm_up_eq, if_neg (by omega), pm_up_eq, if_pos (by omega)]
  · rw [pm_up_eq, if_pos (by omega)]
theorem pm_I_n {B : pm_Av} (hB : pm_CB B) {n : Nat} {x y : Nat → Nat → Int32} {w v : Nat → Nat → Bool} {f g : Nat → Nat → Nat} (h : pm_I (pm_R3 (pm_Ab B)) n x w f) (hx : ∀ k j, pm_fn k = true → y k j = x k j) (hw : ∀ k j, pm_fn k = true → v k j = w k j) (h0 : pm_N 31 0 0 y v) (h1 : pm_N 50 1 6 y v) (hl : pm_Ls y v g) : pm_I (pm_R3 (pm_Ab B)) (n + 1) y v g := by
  have fn : ∀ k, pm_fl k = true → pm_nw k = false → pm_fn k = true := fun k a b => by
    unfold pm_fn
    rw [a, b]
    rfl
  refine ⟨fun q hq => ?_, fun q hq => ?_, ⟨hB n x w y v (fun k j g _ => hx k j g) (fun k j g _ => hw k j g) h.2.2.1.1, h0, h1⟩, hl⟩
  · rw [hx _ _ (fn _ (pm_px_fl q hq).1 (pm_px_nw q hq).1), hx _ _ (fn _ (pm_px_fl q hq).2 (pm_px_nw q hq).2)]
    exact h.1 q hq
  · rw [hw _ _ (fn _ (pm_pw_fl q hq).1 (pm_pw_nw q hq).1), hw _ _ (fn _ (pm_pw_fl q hq).2 (pm_pw_nw q hq).2)]
    exact h.2.1 q hq
theorem pm_fn_ne {k : Nat} (h : pm_fn k = true) : pm_fl k = true ∧ k ≠ 31 ∧ k ≠ 50 ∧ k ≠ 72 ∧ k ≠ 73 ∧ k ≠ 1 ∧ k ≠ 15 := by
  refine ⟨?_, ?_, ?_, ?_, ?_, ?_, ?_⟩
  · simp only [pm_fn, Bool.and_eq_true] at h
    exact h.1
  all_goals (intro e; rw [e] at h; exact absurd h (by decide))

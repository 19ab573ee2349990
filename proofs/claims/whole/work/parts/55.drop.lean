/-! The rest is A (which sees no line) and the lines. drop. -/
def pm_fl (k : Nat) : Bool := (Nat.beq k 0 || Nat.blt 28 k) && !(Nat.beq k 74) && !(Nat.beq k 75)
theorem pm_px_fl : ∀ q ∈ pm_px, pm_fl q.1.1 = true ∧ pm_fl q.2.1.1 = true := by decide +kernel
theorem pm_pw_fl : ∀ q ∈ pm_pw, pm_fl q.1.1 = true ∧ pm_fl q.2.1 = true := by decide +kernel
theorem pm_fx_line {k j : Nat} (h : pm_fl k = false) : pm_fx k j = true := by
  unfold pm_fx
  apply List.all_eq_true.mpr
  intro q hq
  obtain ⟨h1, h2⟩ := pm_px_fl q hq
  simp only [Bool.and_eq_true, decide_eq_true_eq]
  exact ⟨fun e => (by rw [e] at h1; rw [h] at h1; cases h1), fun e => (by rw [e] at h2; rw [h] at h2; cases h2)⟩
theorem pm_fw_line {k j : Nat} (h : pm_fl k = false) : pm_fw k j = true := by
  unfold pm_fw
  apply List.all_eq_true.mpr
  intro q hq
  obtain ⟨h1, h2⟩ := pm_pw_fl q hq
  simp only [Bool.and_eq_true, decide_eq_true_eq]
  exact ⟨fun e => (by rw [e] at h1; rw [h] at h1; cases h1), fun e => (by rw [e] at h2; rw [h] at h2; cases h2)⟩
abbrev pm_Av : Type := Nat → (Nat → Nat → Int32) → (Nat → Nat → Bool) → Prop
/-- A sees neither pairs nor lines -/
def pm_CA (A : pm_Av) : Prop := ∀ n x w x' w', (∀ k j, pm_fl k = true → pm_fx k j = true → x' k j = x k j) → (∀ k j, pm_fl k = true → pm_fw k j = true → w' k j = w k j) → A n x w → A (n + 1) x' w'
def pm_R3 (A : pm_Av) : pm_Iv := fun n x w f => A n x w ∧ pm_Ls x w f
theorem pm_F_fl {q : Nat} (h : q ∈ pm_F0 ∨ q ∈ pm_F1) : pm_fl q = false := by
  have h0 : ∀ q ∈ pm_F0, pm_fl q = false := by decide
  have h1 : ∀ q ∈ pm_F1, pm_fl q = false := by decide
  rcases h with h | h
  · exact h0 q h
  · exact h1 q h
theorem pm_Li_c {p s t0 : Nat} {x y : Nat → Nat → Int32} {w v : Nat → Nat → Bool} {f g : Nat → Nat → Nat} (h : pm_Li p s t0 x w f) (h1 : y p 1 = x p 1) (h2 : y 74 s = x 74 s) (hq : ∀ j, j < 12 → ∀ k, y (f s j) k = x (f s j) k ∧ v (f s j) k = w (f s j) k) (ht : ∀ i r, i < 12 → r < 6 → y 75 (t0 + 6 * i + r) = x 75 (t0 + 6 * i + r)) (hg : ∀ j, j < 12 → g s j = f s j) : pm_Li p s t0 y v g := by
  obtain ⟨c, h12, e1, e2, hF⟩ := h
  refine ⟨c, h12, h1.trans e1, h2.trans e2, fun j hj => ?_⟩
  have hj2 : j < 12 := by omega
  rw [hg j hj2]
  obtain ⟨a0, a1, a2, a3, a4, a5, a6⟩ := hF j hj
  refine ⟨?_, ?_, ?_, ?_, ?_, ?_, ?_⟩
  · rw [(hq j hj2 0).1, ht j 0 hj2 (by decide)]; exact a0
  · rw [(hq j hj2 1).1, ht j 1 hj2 (by decide)]; exact a1
  · rw [(hq j hj2 2).1, ht j 2 hj2 (by decide)]; exact a2
  · rw [(hq j hj2 3).1, ht j 3 hj2 (by decide)]; exact a3
  · rw [(hq j hj2 4).2, ht j 4 hj2 (by decide)]; exact a4
  · rw [(hq j hj2 5).2, ht j 5 hj2 (by decide)]; exact a5
  · rw [(hq j hj2 0).1]; exact a6
theorem pm_Li_rm {p s t0 n j : Nat} {x y : Nat → Nat → Int32} {w v : Nat → Nat → Bool} {f : Nat → Nat → Nat} (h : pm_Li p s t0 x w f) (hx : x p 1 = Int32.ofNat (n + 1)) (hj : j ≤ n) (hn : n < 12) (y1 : y p 1 = Int32.ofNat n) (y2 : y 74 s = Int32.ofNat n) (hq : ∀ j, j < 12 → ∀ k, y (f s j) k = x (f s j) k ∧ v (f s j) k = w (f s j) k) (ht : ∀ i r, i < j → r < 6 → y 75 (t0 + 6 * i + r) = x 75 (t0 + 6 * i + r)) (ht2 : ∀ i r, j ≤ i → i < n → r < 6 → y 75 (t0 + 6 * i + r) = x 75 (t0 + 6 * (i + 1) + r)) : pm_Li p s t0 y v (pm_rmv f s j n) := by
  obtain ⟨c, h12, e1, e2, hF⟩ := h
  have ec : c = n + 1 := (nI_eq (by omega) (by omega)).mp (show nI c = nI (n + 1) from e1.symm.trans hx)
  subst ec
  refine ⟨n, by omega, y1, y2, fun i hi => ?_⟩
  by_cases g : i < j
  · have e : pm_rmv f s j n s i = f s i := by
      unfold pm_rmv
      rw [if_neg (by omega), if_neg (by omega)]
    rw [e]
    have hi2 : i < 12 := by omega
    obtain ⟨a0, a1, a2, a3, a4, a5, a6⟩ := hF i (by omega)
    refine ⟨?_, ?_, ?_, ?_, ?_, ?_, ?_⟩
    · rw [(hq i hi2 0).1, ht i 0 g (by decide)]; exact a0
    · rw [(hq i hi2 1).1, ht i 1 g (by decide)]; exact a1
    · rw [(hq i hi2 2).1, ht i 2 g (by decide)]; exact a2
    · rw [(hq i hi2 3).1, ht i 3 g (by decide)]; exact a3
    · rw [(hq i hi2 4).2, ht i 4 g (by decide)]; exact a4
    · rw [(hq i hi2 5).2, ht i 5 g (by decide)]; exact a5
    · rw [(hq i hi2 0).1]; exact a6
  · have e : pm_rmv f s j n s i = f s (i + 1) := by
      unfold pm_rmv
      rw [if_pos (by omega)]
    rw [e]
    have hi2 : i + 1 < 12 := by omega
    have g2 : j ≤ i := by omega
    obtain ⟨a0, a1, a2, a3, a4, a5, a6⟩ := hF (i + 1) (by omega)
    refine ⟨?_, ?_, ?_, ?_, ?_, ?_, ?_⟩
    · rw [(hq (i + 1) hi2 0).1, ht2 i 0 g2 hi (by decide)]; exact a0
    · rw [(hq (i + 1) hi2 1).1, ht2 i 1 g2 hi (by decide)]; exact a1
    · rw [(hq (i + 1) hi2 2).1, ht2 i 2 g2 hi (by decide)]; exact a2
    · rw [(hq (i + 1) hi2 3).1, ht2 i 3 g2 hi (by decide)]; exact a3
    · rw [(hq (i + 1) hi2 4).2, ht2 i 4 g2 hi (by decide)]; exact a4
    · rw [(hq (i + 1) hi2 5).2, ht2 i 5 g2 hi (by decide)]; exact a5
    · rw [(hq (i + 1) hi2 0).1]; exact a6
theorem pm_rmv_fi {f : Nat → Nat → Nat} {s j n : Nat} (hj : j ≤ n) (hn : n < 12) (h : pm_fi f) : pm_fi (pm_rmv f s j n) := by
  intro a i i' hi hi' ha e
  have hs : ∀ i, i < 12 → ∃ k, k < 12 ∧ pm_rmv f s j n a i = f a k ∧ ((a = s ∧ j ≤ i ∧ i < n ∧ k = i + 1) ∨ (a = s ∧ i = n ∧ k = j) ∨ (¬ (a = s ∧ j ≤ i ∧ i < n) ∧ ¬ (a = s ∧ i = n) ∧ k = i)) := by
    intro i hi
    unfold pm_rmv
    by_cases g1 : a = s ∧ j ≤ i ∧ i < n
    · exact ⟨i + 1, by omega, by rw [if_pos g1, g1.1], Or.inl ⟨g1.1, g1.2.1, g1.2.2, rfl⟩⟩
    · rw [if_neg g1]
      by_cases g2 : a = s ∧ i = n
      · exact ⟨j, by omega, by rw [if_pos g2, g2.1], Or.inr (Or.inl ⟨g2.1, g2.2, rfl⟩)⟩
      · exact ⟨i, hi, by rw [if_neg g2], Or.inr (Or.inr ⟨g1, g2, rfl⟩)⟩
  obtain ⟨k, hk, e1, c1⟩ := hs i hi
  obtain ⟨k', hk', e2, c2⟩ := hs i' hi'
  rw [e1, e2] at e
  have e3 := h a k k' hk hk' ha e
  omega
theorem pm_rmv_ff0 {f : Nat → Nat → Nat} {j n : Nat} (hj : j ≤ n) (hn : n < 12) (hf : pm_ff f) : pm_ff (pm_rmv f 0 j n) := by
  intro i hi
  unfold pm_rmv
  refine ⟨?_, ?_⟩
  · by_cases g1 : (0 : Nat) = 0 ∧ j ≤ i ∧ i < n
    · rw [if_pos g1]; exact (hf (i + 1) (by omega)).1
    · rw [if_neg g1]
      by_cases g2 : (0 : Nat) = 0 ∧ i = n
      · rw [if_pos g2]; exact (hf j (by omega)).1
      · rw [if_neg g2]; exact (hf i hi).1
  · rw [if_neg (by omega), if_neg (by omega)]; exact (hf i hi).2
theorem pm_rmv_ff1 {f : Nat → Nat → Nat} {j n : Nat} (hj : j ≤ n) (hn : n < 12) (hf : pm_ff f) : pm_ff (pm_rmv f 1 j n) := by
  intro i hi
  unfold pm_rmv
  refine ⟨?_, ?_⟩
  · rw [if_neg (by omega), if_neg (by omega)]; exact (hf i hi).1
  · by_cases g1 : (1 : Nat) = 1 ∧ j ≤ i ∧ i < n
    · rw [if_pos g1]; exact (hf (i + 1) (by omega)).2
    · rw [if_neg g1]
      by_cases g2 : (1 : Nat) = 1 ∧ i = n
      · rw [if_pos g2]; exact (hf j (by omega)).2
      · rw [if_neg g2]; exact (hf i hi).2
theorem pm_Ls_c {x y : Nat → Nat → Int32} {w v : Nat → Nat → Bool} {f : Nat → Nat → Nat} (h : pm_Ls x w f) (hx : ∀ k j, pm_fl k = false → y k j = x k j) (hw : ∀ k j, pm_fl k = false → v k j = w k j) : pm_Ls y v f := by
  obtain ⟨hf, l0, l1, hfi⟩ := h
  refine ⟨hf, pm_Li_c l0 (hx 1 1 (by decide)) (hx 74 0 (by decide)) (fun j hj k => ⟨hx _ _ (pm_F_fl (Or.inl (hf j hj).1)), hw _ _ (pm_F_fl (Or.inl (hf j hj).1))⟩) (fun i r _ _ => hx 75 _ (by decide)) (fun _ _ => rfl), pm_Li_c l1 (hx 15 1 (by decide)) (hx 74 1 (by decide)) (fun j hj k => ⟨hx _ _ (pm_F_fl (Or.inr (hf j hj).2)), hw _ _ (pm_F_fl (Or.inr (hf j hj).2))⟩) (fun i r _ _ => hx 75 _ (by decide)) (fun _ _ => rfl), hfi⟩
theorem pm_C2_R3 {A : pm_Av} (hA : pm_CA A) : pm_C2 (pm_R3 A) := fun n x w f x' w' hx hw h => ⟨hA n x w x' w' (fun k j _ g => hx k j g) (fun k j _ g => hw k j g) h.1, pm_Ls_c h.2 (fun k j g => hx k j (pm_fx_line g)) (fun k j g => hw k j (pm_fw_line g))⟩
theorem pm_Hl_R3 {A : pm_Av} : pm_Hl (pm_R3 A) := fun _ _ _ _ h => h.2
/-- a change in the lines alone -/
theorem pm_I_l {A : pm_Av} (hA : pm_CA A) {n : Nat} {x y : Nat → Nat → Int32} {w : Nat → Nat → Bool} {f g : Nat → Nat → Nat} (h : pm_I (pm_R3 A) n x w f) (hx : ∀ k j, pm_fl k = true → y k j = x k j) (hl : pm_Ls y w g) : pm_I (pm_R3 A) (n + 1) y w g := by
  refine ⟨fun q hq => ?_, h.2.1, hA n x w y w (fun k j g _ => hx k j g) (fun _ _ _ _ => rfl) h.2.2.1, hl⟩
  obtain ⟨h1, h2⟩ := pm_px_fl q hq
  rw [hx _ _ h1, hx _ _ h2]
  exact h.1 q hq
theorem pm_dr0 {x : Nat → Nat → Int32} {w : Nat → Nat → Bool} {f : Nat → Nat → Nat} {n j : Nat} (h : pm_Ls x w f) (hx : x 1 1 = Int32.ofNat (n + 1)) (hj : j ≤ n) (hn : n < 12) : pm_Ls (pm_up (pm_tk (pm_up x 1 1 (Int32.ofNat n)) (0 + 6 * j) (0 + 6 * n)) 74 0 (Int32.ofNat n)) w (pm_rmv f 0 j n) := by
  obtain ⟨hf, l0, l1, hfi⟩ := h
  have hk : ∀ k i, k ≠ 1 → k ≠ 74 → k ≠ 75 → pm_up (pm_tk (pm_up x 1 1 (Int32.ofNat n)) (0 + 6 * j) (0 + 6 * n)) 74 0 (Int32.ofNat n) k i = x k i := by
    intro k i g1 g2 g3
    rw [pm_up_ne g2]
    unfold pm_tk
    rw [if_neg (fun q => g3 q.1), pm_up_ne g1]
  have ht : ∀ i, ¬ (0 + 6 * j ≤ i ∧ i < 0 + 6 * n) → pm_up (pm_tk (pm_up x 1 1 (Int32.ofNat n)) (0 + 6 * j) (0 + 6 * n)) 74 0 (Int32.ofNat n) 75 i = x 75 i := by
    intro i g
    rw [pm_up_ne (by decide)]
    unfold pm_tk
    rw [if_neg (fun q => g q.2), pm_up_ne (by decide)]
  have ht2 : ∀ i, 0 + 6 * j ≤ i → i < 0 + 6 * n → pm_up (pm_tk (pm_up x 1 1 (Int32.ofNat n)) (0 + 6 * j) (0 + 6 * n)) 74 0 (Int32.ofNat n) 75 i = x 75 (i + 6) := by
    intro i g1 g2
    rw [pm_up_ne (by decide)]
    unfold pm_tk
    rw [if_pos ⟨rfl, g1, g2⟩, pm_up_ne (by decide)]
  have h1 : pm_up (pm_tk (pm_up x 1 1 (Int32.ofNat n)) (0 + 6 * j) (0 + 6 * n)) 74 0 (Int32.ofNat n) 1 1 = Int32.ofNat n := by
    rw [pm_up_ne (by decide)]
    unfold pm_tk
    rw [if_neg (by omega), pm_up_at, if_pos rfl]
  have h2 : pm_up (pm_tk (pm_up x 1 1 (Int32.ofNat n)) (0 + 6 * j) (0 + 6 * n)) 74 0 (Int32.ofNat n) 74 0 = Int32.ofNat n := by
    rw [pm_up_at, if_pos rfl]
  have h3 : pm_up (pm_tk (pm_up x 1 1 (Int32.ofNat n)) (0 + 6 * j) (0 + 6 * n)) 74 0 (Int32.ofNat n) 74 1 = x 74 1 := by
    rw [pm_up_at, if_neg (by decide)]
    unfold pm_tk
    rw [if_neg (by omega), pm_up_ne (by decide)]
  have hq0 : ∀ q, q ∈ pm_F0 ∨ q ∈ pm_F1 → q ≠ 1 ∧ q ≠ 74 ∧ q ≠ 75 := by
    have a0 : ∀ q ∈ pm_F0, q ≠ 1 ∧ q ≠ 74 ∧ q ≠ 75 := by decide
    have a1 : ∀ q ∈ pm_F1, q ≠ 1 ∧ q ≠ 74 ∧ q ≠ 75 := by decide
    intro q hq
    rcases hq with hq | hq
    · exact a0 q hq
    · exact a1 q hq
  have hg : ∀ i, i < 12 → pm_rmv f 0 j n 1 i = f 1 i := by
    intro i _
    unfold pm_rmv
    rw [if_neg (by omega), if_neg (by omega)]
  have key : pm_Li 1 0 0 (pm_up (pm_tk (pm_up x 1 1 (Int32.ofNat n)) (0 + 6 * j) (0 + 6 * n)) 74 0 (Int32.ofNat n)) w (pm_rmv f 0 j n) := pm_Li_rm l0 hx hj hn h1 h2 (fun i hi k => ⟨hk _ _ (hq0 _ (Or.inl (hf i hi).1)).1 (hq0 _ (Or.inl (hf i hi).1)).2.1 (hq0 _ (Or.inl (hf i hi).1)).2.2, rfl⟩) (fun i r g1 g2 => ht _ (by omega)) (fun i r g1 g2 g3 => (ht2 _ (by omega) (by omega)).trans (by rw [show 0 + 6 * i + r + 6 = 0 + 6 * (i + 1) + r by omega]))
  have other : pm_Li 15 1 72 (pm_up (pm_tk (pm_up x 1 1 (Int32.ofNat n)) (0 + 6 * j) (0 + 6 * n)) 74 0 (Int32.ofNat n)) w (pm_rmv f 0 j n) := pm_Li_c l1 (hk _ _ (by decide) (by decide) (by decide)) h3 (fun i hi k => ⟨hk _ _ (hq0 _ (Or.inr (hf i hi).2)).1 (hq0 _ (Or.inr (hf i hi).2)).2.1 (hq0 _ (Or.inr (hf i hi).2)).2.2, rfl⟩) (fun i r g1 g2 => ht _ (by omega)) hg
  exact ⟨pm_rmv_ff0 hj hn hf, key, other, pm_rmv_fi hj hn hfi⟩
theorem pm_dr1 {x : Nat → Nat → Int32} {w : Nat → Nat → Bool} {f : Nat → Nat → Nat} {n j : Nat} (h : pm_Ls x w f) (hx : x 15 1 = Int32.ofNat (n + 1)) (hj : j ≤ n) (hn : n < 12) : pm_Ls (pm_up (pm_tk (pm_up x 15 1 (Int32.ofNat n)) (72 + 6 * j) (72 + 6 * n)) 74 1 (Int32.ofNat n)) w (pm_rmv f 1 j n) := by
  obtain ⟨hf, l0, l1, hfi⟩ := h
  have hk : ∀ k i, k ≠ 15 → k ≠ 74 → k ≠ 75 → pm_up (pm_tk (pm_up x 15 1 (Int32.ofNat n)) (72 + 6 * j) (72 + 6 * n)) 74 1 (Int32.ofNat n) k i = x k i := by
    intro k i g1 g2 g3
    rw [pm_up_ne g2]
    unfold pm_tk
    rw [if_neg (fun q => g3 q.1), pm_up_ne g1]
  have ht : ∀ i, ¬ (72 + 6 * j ≤ i ∧ i < 72 + 6 * n) → pm_up (pm_tk (pm_up x 15 1 (Int32.ofNat n)) (72 + 6 * j) (72 + 6 * n)) 74 1 (Int32.ofNat n) 75 i = x 75 i := by
    intro i g
    rw [pm_up_ne (by decide)]
    unfold pm_tk
    rw [if_neg (fun q => g q.2), pm_up_ne (by decide)]
  have ht2 : ∀ i, 72 + 6 * j ≤ i → i < 72 + 6 * n → pm_up (pm_tk (pm_up x 15 1 (Int32.ofNat n)) (72 + 6 * j) (72 + 6 * n)) 74 1 (Int32.ofNat n) 75 i = x 75 (i + 6) := by
    intro i g1 g2
    rw [pm_up_ne (by decide)]
    unfold pm_tk
    rw [if_pos ⟨rfl, g1, g2⟩, pm_up_ne (by decide)]
  have h1 : pm_up (pm_tk (pm_up x 15 1 (Int32.ofNat n)) (72 + 6 * j) (72 + 6 * n)) 74 1 (Int32.ofNat n) 15 1 = Int32.ofNat n := by
    rw [pm_up_ne (by decide)]
    unfold pm_tk
    rw [if_neg (by omega), pm_up_at, if_pos rfl]
  have h2 : pm_up (pm_tk (pm_up x 15 1 (Int32.ofNat n)) (72 + 6 * j) (72 + 6 * n)) 74 1 (Int32.ofNat n) 74 1 = Int32.ofNat n := by
    rw [pm_up_at, if_pos rfl]
  have h3 : pm_up (pm_tk (pm_up x 15 1 (Int32.ofNat n)) (72 + 6 * j) (72 + 6 * n)) 74 1 (Int32.ofNat n) 74 0 = x 74 0 := by
    rw [pm_up_at, if_neg (by decide)]
    unfold pm_tk
    rw [if_neg (by omega), pm_up_ne (by decide)]
  have hq0 : ∀ q, q ∈ pm_F0 ∨ q ∈ pm_F1 → q ≠ 15 ∧ q ≠ 74 ∧ q ≠ 75 := by
    have a0 : ∀ q ∈ pm_F0, q ≠ 15 ∧ q ≠ 74 ∧ q ≠ 75 := by decide
    have a1 : ∀ q ∈ pm_F1, q ≠ 15 ∧ q ≠ 74 ∧ q ≠ 75 := by decide
    intro q hq
    rcases hq with hq | hq
    · exact a0 q hq
    · exact a1 q hq
  have hg : ∀ i, i < 12 → pm_rmv f 1 j n 0 i = f 0 i := by
    intro i _
    unfold pm_rmv
    rw [if_neg (by omega), if_neg (by omega)]
  have key : pm_Li 15 1 72 (pm_up (pm_tk (pm_up x 15 1 (Int32.ofNat n)) (72 + 6 * j) (72 + 6 * n)) 74 1 (Int32.ofNat n)) w (pm_rmv f 1 j n) := pm_Li_rm l1 hx hj hn h1 h2 (fun i hi k => ⟨hk _ _ (hq0 _ (Or.inr (hf i hi).2)).1 (hq0 _ (Or.inr (hf i hi).2)).2.1 (hq0 _ (Or.inr (hf i hi).2)).2.2, rfl⟩) (fun i r g1 g2 => ht _ (by omega)) (fun i r g1 g2 g3 => (ht2 _ (by omega) (by omega)).trans (by rw [show 72 + 6 * i + r + 6 = 72 + 6 * (i + 1) + r by omega]))
  have other : pm_Li 1 0 0 (pm_up (pm_tk (pm_up x 15 1 (Int32.ofNat n)) (72 + 6 * j) (72 + 6 * n)) 74 1 (Int32.ofNat n)) w (pm_rmv f 1 j n) := pm_Li_c l0 (hk _ _ (by decide) (by decide) (by decide)) h3 (fun i hi k => ⟨hk _ _ (hq0 _ (Or.inl (hf i hi).1)).1 (hq0 _ (Or.inl (hf i hi).1)).2.1 (hq0 _ (Or.inl (hf i hi).1)).2.2, rfl⟩) (fun i r g1 g2 => ht _ (by omega)) hg
  exact ⟨pm_rmv_ff1 hj hn hf, other, key, pm_rmv_fi hj hn hfi⟩
theorem pm_g57 {A : pm_Av} (hA : pm_CA A) {sc : pm_Sc} (a b : Int32) : pm_Go (pm_call pm_Tf sc 7) (pm_I (pm_R3 A)) 57 104 [.inl a, .inl b] := by
  intro n x w f _ h
  have hc := pm_C2_R3 hA
  have hL := h.2.2.2
  obtain ⟨hf, l0, l1, hfi⟩ := h.2.2.2
  by_cases ha : q69 a x w f = true
  · rcases pm_q69_c ha with rfl | rfl
    · obtain ⟨c, h12, hx, hy, hF⟩ := l0
      rcases pm_uw0 (w := w) (f := f) (e := b) h12 hx with ⟨j, hj, rfl⟩ | ⟨h1, h2⟩
      · obtain ⟨n', rfl⟩ : ∃ n', c = n' + 1 := ⟨c - 1, by omega⟩
        refine ⟨Int32.ofNat n', pm_up x 1 1 (Int32.ofNat n'), w, pm_rmv f 0 j n', _, w, pm_rmv f 0 j n', zdrp0 (sc := sc) 4 x w f n' j hx (by omega) (by omega) hf, zmdr0 (sc := sc) 5 (pm_up x 1 1 (Int32.ofNat n')) w (pm_rmv f 0 j n') n' j ((congrFun (pm_up_ne (by decide)) _).trans hy) (by omega) (by omega), pm_I_l hA h (fun k i g => ?_) (pm_dr0 hL hx (by omega) (by omega))⟩
        have g1 : k ≠ 1 := fun e => by rw [e] at g; exact absurd g (by decide)
        have g2 : k ≠ 74 := fun e => by rw [e] at g; exact absurd g (by decide)
        have g3 : k ≠ 75 := fun e => by rw [e] at g; exact absurd g (by decide)
        rw [pm_up_ne g2]
        unfold pm_tk
        rw [if_neg (fun q => g3 q.1), pm_up_ne g1]
      · exact pm_go_of (z570u (sc := sc) 4 b x w f h1) rfl (z1040u (sc := sc) 5 b x w f (h2 x w f hy)) rfl (pm_I_mo hc h)
    · obtain ⟨c, h12, hx, hy, hF⟩ := l1
      rcases pm_uw1 (w := w) (f := f) (e := b) h12 hx with ⟨j, hj, rfl⟩ | ⟨h1, h2⟩
      · obtain ⟨n', rfl⟩ : ∃ n', c = n' + 1 := ⟨c - 1, by omega⟩
        refine ⟨Int32.ofNat n', pm_up x 15 1 (Int32.ofNat n'), w, pm_rmv f 1 j n', _, w, pm_rmv f 1 j n', zdrp1 (sc := sc) 4 x w f n' j hx (by omega) (by omega) hf, zmdr1 (sc := sc) 5 (pm_up x 15 1 (Int32.ofNat n')) w (pm_rmv f 1 j n') n' j ((congrFun (pm_up_ne (by decide)) _).trans hy) (by omega) (by omega), pm_I_l hA h (fun k i g => ?_) (pm_dr1 hL hx (by omega) (by omega))⟩
        have g1 : k ≠ 15 := fun e => by rw [e] at g; exact absurd g (by decide)
        have g2 : k ≠ 74 := fun e => by rw [e] at g; exact absurd g (by decide)
        have g3 : k ≠ 75 := fun e => by rw [e] at g; exact absurd g (by decide)
        rw [pm_up_ne g2]
        unfold pm_tk
        rw [if_neg (fun q => g3 q.1), pm_up_ne g1]
      · exact pm_go_of (z571u (sc := sc) 4 b x w f h1) rfl (z1041u (sc := sc) 5 b x w f (h2 x w f hy)) rfl (pm_I_mo hc h)
  · exact pm_go_of (z57s (sc := sc) 4 a b x w f ha Bool.false_ne_true) rfl (z104s (sc := sc) 5 a b x w f (pm_q91_s ha) rfl) rfl (pm_I_mo hc h)

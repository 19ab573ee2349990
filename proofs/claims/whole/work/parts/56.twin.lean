/-! twin. -/
theorem pm_cx_at {x : Nat → Nat → Int32} {q q2 : Nat} : pm_cx x q q2 q 0 = x q2 0 ∧ pm_cx x q q2 q 1 = x q2 1 ∧ pm_cx x q q2 q 2 = x q2 2 ∧ pm_cx x q q2 q 3 = x q2 3 := by
  unfold pm_cx
  refine ⟨?_, ?_, ?_, ?_⟩
  · rw [pm_up_at, if_neg (by decide), pm_up_at, if_neg (by decide), pm_up_at, if_neg (by decide), pm_up_at, if_pos rfl]
  · rw [pm_up_at, if_neg (by decide), pm_up_at, if_neg (by decide), pm_up_at, if_pos rfl]
  · rw [pm_up_at, if_neg (by decide), pm_up_at, if_pos rfl]
  · rw [pm_up_at, if_pos rfl]
theorem pm_cw_at {w : Nat → Nat → Bool} {q q2 : Nat} : pm_cw w q q2 q 4 = w q2 4 ∧ pm_cw w q q2 q 5 = w q2 5 := by
  unfold pm_cw
  refine ⟨?_, ?_⟩
  · rw [pm_up_at, if_neg (by decide), pm_up_at, if_pos rfl]
  · rw [pm_up_at, if_pos rfl]
theorem pm_Li_tw {p s t0 n j : Nat} {x y : Nat → Nat → Int32} {w v : Nat → Nat → Bool} {f : Nat → Nat → Nat} (h : pm_Li p s t0 x w f) (hx : x p 1 = Int32.ofNat (n + 1)) (hj : j ≤ n) (hn : n < 11) (y1 : y p 1 = Int32.ofNat (n + 2)) (y2 : y 74 s = Int32.ofNat (n + 2)) (hq : ∀ i, i < n + 1 → ∀ k, y (f s i) k = x (f s i) k ∧ v (f s i) k = w (f s i) k) (hq2 : y (f s (n + 1)) 0 = x (f s j) 0 ∧ y (f s (n + 1)) 1 = x (f s j) 1 ∧ y (f s (n + 1)) 2 = x (f s j) 2 ∧ y (f s (n + 1)) 3 = x (f s j) 3 ∧ v (f s (n + 1)) 4 = w (f s j) 4 ∧ v (f s (n + 1)) 5 = w (f s j) 5) (ht : ∀ i r, i ≤ j → r < 6 → y 75 (t0 + 6 * i + r) = x 75 (t0 + 6 * i + r)) (ht2 : ∀ i r, j ≤ i → i ≤ n → r < 6 → y 75 (t0 + 6 * (i + 1) + r) = x 75 (t0 + 6 * i + r)) : pm_Li p s t0 y v (pm_dbl f s j (n + 1)) := by
  obtain ⟨c, h12, e1, e2, hF⟩ := h
  have ec : c = n + 1 := (nI_eq (by omega) (by omega)).mp (show nI c = nI (n + 1) from e1.symm.trans hx)
  subst ec
  refine ⟨n + 2, by omega, y1, y2, fun i hi => ?_⟩
  by_cases g : i ≤ j
  · have e : pm_dbl f s j (n + 1) s i = f s i := by
      unfold pm_dbl
      rw [if_neg (by omega), if_neg (by omega)]
    rw [e]
    have hi2 : i < n + 1 := by omega
    obtain ⟨a0, a1, a2, a3, a4, a5, a6⟩ := hF i hi2
    refine ⟨?_, ?_, ?_, ?_, ?_, ?_, ?_⟩
    · rw [(hq i hi2 0).1, ht i 0 g (by decide)]; exact a0
    · rw [(hq i hi2 1).1, ht i 1 g (by decide)]; exact a1
    · rw [(hq i hi2 2).1, ht i 2 g (by decide)]; exact a2
    · rw [(hq i hi2 3).1, ht i 3 g (by decide)]; exact a3
    · rw [(hq i hi2 4).2, ht i 4 g (by decide)]; exact a4
    · rw [(hq i hi2 5).2, ht i 5 g (by decide)]; exact a5
    · rw [(hq i hi2 0).1]; exact a6
  · obtain ⟨i, rfl⟩ : ∃ i', i = i' + 1 := ⟨i - 1, by omega⟩
    have g2 : j ≤ i := by omega
    have g3 : i ≤ n := by omega
    obtain ⟨a0, a1, a2, a3, a4, a5, a6⟩ := hF i (by omega)
    by_cases g4 : i = j
    · subst g4
      have e : pm_dbl f s i (n + 1) s (i + 1) = f s (n + 1) := by
        unfold pm_dbl
        rw [if_neg (by omega), if_pos ⟨rfl, rfl⟩]
      rw [e]
      obtain ⟨b0, b1, b2, b3, b4, b5⟩ := hq2
      refine ⟨?_, ?_, ?_, ?_, ?_, ?_, ?_⟩
      · rw [b0, ht2 i 0 g2 g3 (by decide)]; exact a0
      · rw [b1, ht2 i 1 g2 g3 (by decide)]; exact a1
      · rw [b2, ht2 i 2 g2 g3 (by decide)]; exact a2
      · rw [b3, ht2 i 3 g2 g3 (by decide)]; exact a3
      · rw [b4, ht2 i 4 g2 g3 (by decide)]; exact a4
      · rw [b5, ht2 i 5 g2 g3 (by decide)]; exact a5
      · rw [b0]; exact a6
    · have e : pm_dbl f s j (n + 1) s (i + 1) = f s i := by
        unfold pm_dbl
        rw [if_pos (by omega), Nat.add_sub_cancel]
      rw [e]
      have hi2 : i < n + 1 := by omega
      refine ⟨?_, ?_, ?_, ?_, ?_, ?_, ?_⟩
      · rw [(hq i hi2 0).1, ht2 i 0 g2 g3 (by decide)]; exact a0
      · rw [(hq i hi2 1).1, ht2 i 1 g2 g3 (by decide)]; exact a1
      · rw [(hq i hi2 2).1, ht2 i 2 g2 g3 (by decide)]; exact a2
      · rw [(hq i hi2 3).1, ht2 i 3 g2 g3 (by decide)]; exact a3
      · rw [(hq i hi2 4).2, ht2 i 4 g2 g3 (by decide)]; exact a4
      · rw [(hq i hi2 5).2, ht2 i 5 g2 g3 (by decide)]; exact a5
      · rw [(hq i hi2 0).1]; exact a6
theorem pm_dbl_k {f : Nat → Nat → Nat} {s j n a : Nat} (hj : j < n) (hn : n < 12) (i : Nat) (hi : i < 12) : ∃ k, k < 12 ∧ pm_dbl f s j n a i = f a k ∧ ((a = s ∧ j + 1 < i ∧ i ≤ n ∧ k = i - 1) ∨ (a = s ∧ i = j + 1 ∧ k = n) ∨ (¬ (a = s ∧ j + 1 < i ∧ i ≤ n) ∧ ¬ (a = s ∧ i = j + 1) ∧ k = i)) := by
  unfold pm_dbl
  by_cases g1 : a = s ∧ j + 1 < i ∧ i ≤ n
  · exact ⟨i - 1, by omega, by rw [if_pos g1, g1.1], Or.inl ⟨g1.1, g1.2.1, g1.2.2, rfl⟩⟩
  · rw [if_neg g1]
    by_cases g2 : a = s ∧ i = j + 1
    · exact ⟨n, by omega, by rw [if_pos g2, g2.1], Or.inr (Or.inl ⟨g2.1, g2.2, rfl⟩)⟩
    · exact ⟨i, hi, by rw [if_neg g2], Or.inr (Or.inr ⟨g1, g2, rfl⟩)⟩
theorem pm_dbl_fi {f : Nat → Nat → Nat} {s j n : Nat} (hj : j < n) (hn : n < 12) (h : pm_fi f) : pm_fi (pm_dbl f s j n) := by
  intro a i i' hi hi' ha e
  obtain ⟨k, hk, e1, c1⟩ := pm_dbl_k (f := f) (s := s) (a := a) hj hn i hi
  obtain ⟨k', hk', e2, c2⟩ := pm_dbl_k (f := f) (s := s) (a := a) hj hn i' hi'
  rw [e1, e2] at e
  have e3 := h a k k' hk hk' ha e
  omega
theorem pm_dbl_ff {f : Nat → Nat → Nat} {s j n : Nat} (hj : j < n) (hn : n < 12) (hf : pm_ff f) : pm_ff (pm_dbl f s j n) := by
  intro i hi
  obtain ⟨k, hk, e1, -⟩ := pm_dbl_k (f := f) (s := s) (a := 0) hj hn i hi
  obtain ⟨k', hk', e2, -⟩ := pm_dbl_k (f := f) (s := s) (a := 1) hj hn i hi
  rw [e1, e2]
  exact ⟨(hf k hk).1, (hf k' hk').2⟩
theorem pm_I_lw {A : pm_Av} (hA : pm_CA A) {n : Nat} {x y : Nat → Nat → Int32} {w v : Nat → Nat → Bool} {f g : Nat → Nat → Nat} (h : pm_I (pm_R3 A) n x w f) (hx : ∀ k j, pm_fl k = true → y k j = x k j) (hw : ∀ k j, pm_fl k = true → v k j = w k j) (hl : pm_Ls y v g) : pm_I (pm_R3 A) (n + 1) y v g := by
  refine ⟨fun q hq => ?_, fun q hq => ?_, hA n x w y v (fun k j g _ => hx k j g) (fun k j g _ => hw k j g) h.2.2.1, hl⟩
  · obtain ⟨h1, h2⟩ := pm_px_fl q hq
    rw [hx _ _ h1, hx _ _ h2]
    exact h.1 q hq
  · obtain ⟨h1, h2⟩ := pm_pw_fl q hq
    rw [hw _ _ h1, hw _ _ h2]
    exact h.2.1 q hq
theorem pm_F_ne : ∀ q, q ∈ pm_F0 ∨ q ∈ pm_F1 → q ≠ 1 ∧ q ≠ 15 ∧ q ≠ 74 ∧ q ≠ 75 := by
  have a0 : ∀ q ∈ pm_F0, q ≠ 1 ∧ q ≠ 15 ∧ q ≠ 74 ∧ q ≠ 75 := by decide
  have a1 : ∀ q ∈ pm_F1, q ≠ 1 ∧ q ≠ 15 ∧ q ≠ 74 ∧ q ≠ 75 := by decide
  intro q hq
  rcases hq with hq | hq
  · exact a0 q hq
  · exact a1 q hq
theorem pm_F01 : ∀ q ∈ pm_F0, ∀ r ∈ pm_F1, q ≠ r := by decide
theorem pm_twY0 {x : Nat → Nat → Int32} {f : Nat → Nat → Nat} {n j : Nat} (hf : pm_ff f) (hn : n < 11) : (∀ k i, k ≠ 1 → k ≠ 74 → k ≠ 75 → k ≠ f 0 (n + 1) → (pm_up (pm_tw (pm_cx (pm_up x 1 1 (Int32.ofNat (n + 2))) (f 0 (n + 1)) (f 0 j)) (0 + 6 * j + 6) (0 + 6 * (n + 1) + 5)) 74 0 (Int32.ofNat (n + 2))) k i = x k i) ∧ (pm_up (pm_tw (pm_cx (pm_up x 1 1 (Int32.ofNat (n + 2))) (f 0 (n + 1)) (f 0 j)) (0 + 6 * j + 6) (0 + 6 * (n + 1) + 5)) 74 0 (Int32.ofNat (n + 2))) 1 1 = Int32.ofNat (n + 2) ∧ (pm_up (pm_tw (pm_cx (pm_up x 1 1 (Int32.ofNat (n + 2))) (f 0 (n + 1)) (f 0 j)) (0 + 6 * j + 6) (0 + 6 * (n + 1) + 5)) 74 0 (Int32.ofNat (n + 2))) 74 0 = Int32.ofNat (n + 2) ∧ (pm_up (pm_tw (pm_cx (pm_up x 1 1 (Int32.ofNat (n + 2))) (f 0 (n + 1)) (f 0 j)) (0 + 6 * j + 6) (0 + 6 * (n + 1) + 5)) 74 0 (Int32.ofNat (n + 2))) 74 1 = x 74 1 ∧ (∀ i, ¬ (0 + 6 * j + 6 ≤ i ∧ i ≤ 0 + 6 * (n + 1) + 5) → (pm_up (pm_tw (pm_cx (pm_up x 1 1 (Int32.ofNat (n + 2))) (f 0 (n + 1)) (f 0 j)) (0 + 6 * j + 6) (0 + 6 * (n + 1) + 5)) 74 0 (Int32.ofNat (n + 2))) 75 i = x 75 i) ∧ (∀ i, 0 + 6 * j + 6 ≤ i → i ≤ 0 + 6 * (n + 1) + 5 → (pm_up (pm_tw (pm_cx (pm_up x 1 1 (Int32.ofNat (n + 2))) (f 0 (n + 1)) (f 0 j)) (0 + 6 * j + 6) (0 + 6 * (n + 1) + 5)) 74 0 (Int32.ofNat (n + 2))) 75 i = x 75 (i - 6)) ∧ ∀ r, (pm_up (pm_tw (pm_cx (pm_up x 1 1 (Int32.ofNat (n + 2))) (f 0 (n + 1)) (f 0 j)) (0 + 6 * j + 6) (0 + 6 * (n + 1) + 5)) 74 0 (Int32.ofNat (n + 2))) (f 0 (n + 1)) r = pm_cx (pm_up x 1 1 (Int32.ofNat (n + 2))) (f 0 (n + 1)) (f 0 j) (f 0 (n + 1)) r := by
  obtain ⟨n1, n2, n3, n4⟩ := pm_F_ne (f 0 (n + 1)) (Or.inl (hf (n + 1) (by omega)).1)
  refine ⟨?_, ?_, ?_, ?_, ?_, ?_, ?_⟩
  · intro k i g1 g2 g3 g4
    rw [pm_up_ne g2]
    unfold pm_tw
    rw [if_neg (fun q => g3 q.1), pm_cx_ne g4, pm_up_ne g1]
  · rw [pm_up_ne (by decide)]
    unfold pm_tw
    rw [if_neg (by omega), pm_cx_ne (Ne.symm n1), pm_up_at, if_pos rfl]
  · rw [pm_up_at, if_pos rfl]
  · rw [pm_up_at, if_neg (by decide)]
    unfold pm_tw
    rw [if_neg (by omega), pm_cx_ne (Ne.symm n3), pm_up_ne (by decide)]
  · intro i g
    rw [pm_up_ne (by decide)]
    unfold pm_tw
    rw [if_neg (fun q => g q.2), pm_cx_ne (Ne.symm n4), pm_up_ne (by decide)]
  · intro i g1 g2
    rw [pm_up_ne (by decide)]
    unfold pm_tw
    rw [if_pos ⟨rfl, g1, g2⟩, pm_cx_ne (Ne.symm n4), pm_up_ne (by decide)]
  · intro r
    rw [pm_up_ne n3]
    unfold pm_tw
    rw [if_neg (fun q => n4 q.1)]
theorem pm_tw0 {x : Nat → Nat → Int32} {w : Nat → Nat → Bool} {f : Nat → Nat → Nat} {n j : Nat} (h : pm_Ls x w f) (hx : x 1 1 = Int32.ofNat (n + 1)) (hj : j ≤ n) (hn : n < 11) : pm_Ls (pm_up (pm_tw (pm_cx (pm_up x 1 1 (Int32.ofNat (n + 2))) (f 0 (n + 1)) (f 0 j)) (0 + 6 * j + 6) (0 + 6 * (n + 1) + 5)) 74 0 (Int32.ofNat (n + 2))) (pm_cw w (f 0 (n + 1)) (f 0 j)) (pm_dbl f 0 j (n + 1)) := by
  obtain ⟨hf, l0, l1, hfi⟩ := h
  obtain ⟨y0, y1, y2, y3, y4, y5, y6⟩ := pm_twY0 (x := x) (j := j) hf hn
  have hs : ∀ i, i < n + 1 → f 0 i ≠ f 0 (n + 1) := fun i hi e => by
    have e2 := hfi 0 i (n + 1) (by omega) (by omega) (by omega) e
    omega
  obtain ⟨c0, c1, c2, c3⟩ := pm_cx_at (x := pm_up x 1 1 (Int32.ofNat (n + 2))) (q := f 0 (n + 1)) (q2 := f 0 j)
  obtain ⟨m1, m2, m3, m4⟩ := pm_F_ne (f 0 j) (Or.inl (hf j (by omega)).1)
  have c' : ∀ r, pm_up x 1 1 (Int32.ofNat (n + 2)) (f 0 j) r = x (f 0 j) r := fun r => congrFun (pm_up_ne m1) r
  have key : pm_Li 1 0 0 (pm_up (pm_tw (pm_cx (pm_up x 1 1 (Int32.ofNat (n + 2))) (f 0 (n + 1)) (f 0 j)) (0 + 6 * j + 6) (0 + 6 * (n + 1) + 5)) 74 0 (Int32.ofNat (n + 2))) (pm_cw w (f 0 (n + 1)) (f 0 j)) (pm_dbl f 0 j (n + 1)) := pm_Li_tw l0 hx hj hn y1 y2 (fun i hi k => ⟨y0 _ _ (pm_F_ne _ (Or.inl (hf i (by omega)).1)).1 (pm_F_ne _ (Or.inl (hf i (by omega)).1)).2.2.1 (pm_F_ne _ (Or.inl (hf i (by omega)).1)).2.2.2 (hs i hi), congrFun (pm_cw_ne (hs i hi)) k⟩) ⟨(y6 0).trans (c0.trans (c' 0)), (y6 1).trans (c1.trans (c' 1)), (y6 2).trans (c2.trans (c' 2)), (y6 3).trans (c3.trans (c' 3)), pm_cw_at.1, pm_cw_at.2⟩ (fun i r g1 g2 => y4 _ (by omega)) (fun i r g1 g2 g3 => (y5 _ (by omega) (by omega)).trans (by rw [show 0 + 6 * (i + 1) + r - 6 = 0 + 6 * i + r by omega]))
  have ho : ∀ i, i < 12 → f 1 i ≠ f 0 (n + 1) := fun i hi => Ne.symm (pm_F01 _ (hf (n + 1) (by omega)).1 _ (hf i hi).2)
  have other : pm_Li 15 1 72 (pm_up (pm_tw (pm_cx (pm_up x 1 1 (Int32.ofNat (n + 2))) (f 0 (n + 1)) (f 0 j)) (0 + 6 * j + 6) (0 + 6 * (n + 1) + 5)) 74 0 (Int32.ofNat (n + 2))) (pm_cw w (f 0 (n + 1)) (f 0 j)) (pm_dbl f 0 j (n + 1)) := pm_Li_c l1 (y0 _ _ (by decide) (by decide) (by decide) (Ne.symm (pm_F_ne _ (Or.inl (hf (n + 1) (by omega)).1)).2.1)) y3 (fun i hi k => ⟨y0 _ _ (pm_F_ne _ (Or.inr (hf i hi).2)).1 (pm_F_ne _ (Or.inr (hf i hi).2)).2.2.1 (pm_F_ne _ (Or.inr (hf i hi).2)).2.2.2 (ho i hi), congrFun (pm_cw_ne (ho i hi)) k⟩) (fun i r g1 g2 => y4 _ (by omega)) (fun i hi => by unfold pm_dbl; rw [if_neg (by omega), if_neg (by omega)])
  exact ⟨pm_dbl_ff (by omega) (by omega) hf, key, other, pm_dbl_fi (by omega) (by omega) hfi⟩
theorem pm_twY1 {x : Nat → Nat → Int32} {f : Nat → Nat → Nat} {n j : Nat} (hf : pm_ff f) (hn : n < 11) : (∀ k i, k ≠ 15 → k ≠ 74 → k ≠ 75 → k ≠ f 1 (n + 1) → (pm_up (pm_tw (pm_cx (pm_up x 15 1 (Int32.ofNat (n + 2))) (f 1 (n + 1)) (f 1 j)) (72 + 6 * j + 6) (72 + 6 * (n + 1) + 5)) 74 1 (Int32.ofNat (n + 2))) k i = x k i) ∧ (pm_up (pm_tw (pm_cx (pm_up x 15 1 (Int32.ofNat (n + 2))) (f 1 (n + 1)) (f 1 j)) (72 + 6 * j + 6) (72 + 6 * (n + 1) + 5)) 74 1 (Int32.ofNat (n + 2))) 15 1 = Int32.ofNat (n + 2) ∧ (pm_up (pm_tw (pm_cx (pm_up x 15 1 (Int32.ofNat (n + 2))) (f 1 (n + 1)) (f 1 j)) (72 + 6 * j + 6) (72 + 6 * (n + 1) + 5)) 74 1 (Int32.ofNat (n + 2))) 74 1 = Int32.ofNat (n + 2) ∧ (pm_up (pm_tw (pm_cx (pm_up x 15 1 (Int32.ofNat (n + 2))) (f 1 (n + 1)) (f 1 j)) (72 + 6 * j + 6) (72 + 6 * (n + 1) + 5)) 74 1 (Int32.ofNat (n + 2))) 74 0 = x 74 0 ∧ (∀ i, ¬ (72 + 6 * j + 6 ≤ i ∧ i ≤ 72 + 6 * (n + 1) + 5) → (pm_up (pm_tw (pm_cx (pm_up x 15 1 (Int32.ofNat (n + 2))) (f 1 (n + 1)) (f 1 j)) (72 + 6 * j + 6) (72 + 6 * (n + 1) + 5)) 74 1 (Int32.ofNat (n + 2))) 75 i = x 75 i) ∧ (∀ i, 72 + 6 * j + 6 ≤ i → i ≤ 72 + 6 * (n + 1) + 5 → (pm_up (pm_tw (pm_cx (pm_up x 15 1 (Int32.ofNat (n + 2))) (f 1 (n + 1)) (f 1 j)) (72 + 6 * j + 6) (72 + 6 * (n + 1) + 5)) 74 1 (Int32.ofNat (n + 2))) 75 i = x 75 (i - 6)) ∧ ∀ r, (pm_up (pm_tw (pm_cx (pm_up x 15 1 (Int32.ofNat (n + 2))) (f 1 (n + 1)) (f 1 j)) (72 + 6 * j + 6) (72 + 6 * (n + 1) + 5)) 74 1 (Int32.ofNat (n + 2))) (f 1 (n + 1)) r = pm_cx (pm_up x 15 1 (Int32.ofNat (n + 2))) (f 1 (n + 1)) (f 1 j) (f 1 (n + 1)) r := by
  obtain ⟨n1, n2, n3, n4⟩ := pm_F_ne (f 1 (n + 1)) (Or.inr (hf (n + 1) (by omega)).2)
  refine ⟨?_, ?_, ?_, ?_, ?_, ?_, ?_⟩
  · intro k i g1 g2 g3 g4
    rw [pm_up_ne g2]
    unfold pm_tw
    rw [if_neg (fun q => g3 q.1), pm_cx_ne g4, pm_up_ne g1]
  · rw [pm_up_ne (by decide)]
    unfold pm_tw
    rw [if_neg (by omega), pm_cx_ne (Ne.symm n2), pm_up_at, if_pos rfl]
  · rw [pm_up_at, if_pos rfl]
  · rw [pm_up_at, if_neg (by decide)]
    unfold pm_tw
    rw [if_neg (by omega), pm_cx_ne (Ne.symm n3), pm_up_ne (by decide)]
  · intro i g
    rw [pm_up_ne (by decide)]
    unfold pm_tw
    rw [if_neg (fun q => g q.2), pm_cx_ne (Ne.symm n4), pm_up_ne (by decide)]
  · intro i g1 g2
    rw [pm_up_ne (by decide)]
    unfold pm_tw
    rw [if_pos ⟨rfl, g1, g2⟩, pm_cx_ne (Ne.symm n4), pm_up_ne (by decide)]
  · intro r
    rw [pm_up_ne n3]
    unfold pm_tw
    rw [if_neg (fun q => n4 q.1)]
theorem pm_tw1 {x : Nat → Nat → Int32} {w : Nat → Nat → Bool} {f : Nat → Nat → Nat} {n j : Nat} (h : pm_Ls x w f) (hx : x 15 1 = Int32.ofNat (n + 1)) (hj : j ≤ n) (hn : n < 11) : pm_Ls (pm_up (pm_tw (pm_cx (pm_up x 15 1 (Int32.ofNat (n + 2))) (f 1 (n + 1)) (f 1 j)) (72 + 6 * j + 6) (72 + 6 * (n + 1) + 5)) 74 1 (Int32.ofNat (n + 2))) (pm_cw w (f 1 (n + 1)) (f 1 j)) (pm_dbl f 1 j (n + 1)) := by
  obtain ⟨hf, l0, l1, hfi⟩ := h
  obtain ⟨y0, y1, y2, y3, y4, y5, y6⟩ := pm_twY1 (x := x) (j := j) hf hn
  have hs : ∀ i, i < n + 1 → f 1 i ≠ f 1 (n + 1) := fun i hi e => by
    have e2 := hfi 1 i (n + 1) (by omega) (by omega) (by omega) e
    omega
  obtain ⟨c0, c1, c2, c3⟩ := pm_cx_at (x := pm_up x 15 1 (Int32.ofNat (n + 2))) (q := f 1 (n + 1)) (q2 := f 1 j)
  obtain ⟨m1, m2, m3, m4⟩ := pm_F_ne (f 1 j) (Or.inr (hf j (by omega)).2)
  have c' : ∀ r, pm_up x 15 1 (Int32.ofNat (n + 2)) (f 1 j) r = x (f 1 j) r := fun r => congrFun (pm_up_ne m2) r
  have key : pm_Li 15 1 72 (pm_up (pm_tw (pm_cx (pm_up x 15 1 (Int32.ofNat (n + 2))) (f 1 (n + 1)) (f 1 j)) (72 + 6 * j + 6) (72 + 6 * (n + 1) + 5)) 74 1 (Int32.ofNat (n + 2))) (pm_cw w (f 1 (n + 1)) (f 1 j)) (pm_dbl f 1 j (n + 1)) := pm_Li_tw l1 hx hj hn y1 y2 (fun i hi k => ⟨y0 _ _ (pm_F_ne _ (Or.inr (hf i (by omega)).2)).2.1 (pm_F_ne _ (Or.inr (hf i (by omega)).2)).2.2.1 (pm_F_ne _ (Or.inr (hf i (by omega)).2)).2.2.2 (hs i hi), congrFun (pm_cw_ne (hs i hi)) k⟩) ⟨(y6 0).trans (c0.trans (c' 0)), (y6 1).trans (c1.trans (c' 1)), (y6 2).trans (c2.trans (c' 2)), (y6 3).trans (c3.trans (c' 3)), pm_cw_at.1, pm_cw_at.2⟩ (fun i r g1 g2 => y4 _ (by omega)) (fun i r g1 g2 g3 => (y5 _ (by omega) (by omega)).trans (by rw [show 72 + 6 * (i + 1) + r - 6 = 72 + 6 * i + r by omega]))
  have ho : ∀ i, i < 12 → f 0 i ≠ f 1 (n + 1) := fun i hi => pm_F01 _ (hf i hi).1 _ (hf (n + 1) (by omega)).2
  have other : pm_Li 1 0 0 (pm_up (pm_tw (pm_cx (pm_up x 15 1 (Int32.ofNat (n + 2))) (f 1 (n + 1)) (f 1 j)) (72 + 6 * j + 6) (72 + 6 * (n + 1) + 5)) 74 1 (Int32.ofNat (n + 2))) (pm_cw w (f 1 (n + 1)) (f 1 j)) (pm_dbl f 1 j (n + 1)) := pm_Li_c l0 (y0 _ _ (by decide) (by decide) (by decide) (Ne.symm (pm_F_ne _ (Or.inr (hf (n + 1) (by omega)).2)).1)) y3 (fun i hi k => ⟨y0 _ _ (pm_F_ne _ (Or.inl (hf i hi).1)).2.1 (pm_F_ne _ (Or.inl (hf i hi).1)).2.2.1 (pm_F_ne _ (Or.inl (hf i hi).1)).2.2.2 (ho i hi), congrFun (pm_cw_ne (ho i hi)) k⟩) (fun i r g1 g2 => y4 _ (by omega)) (fun i hi => by unfold pm_dbl; rw [if_neg (by omega), if_neg (by omega)])
  exact ⟨pm_dbl_ff (by omega) (by omega) hf, other, key, pm_dbl_fi (by omega) (by omega) hfi⟩
theorem pm_g58 {A : pm_Av} (hA : pm_CA A) {sc : pm_Sc} (a b : Int32) : pm_Go (pm_call pm_Tf sc 7) (pm_I (pm_R3 A)) 58 105 [.inl a, .inl b] := by
  intro n x w f _ h
  have hc := pm_C2_R3 hA
  have hL := h.2.2.2
  obtain ⟨hf, l0, l1, hfi⟩ := h.2.2.2
  by_cases ha : q69 a x w f = true
  · rcases pm_q69_c ha with rfl | rfl
    · obtain ⟨c, h12, hx, hy, hF⟩ := l0
      rcases pm_uw0 (w := w) (f := f) (e := b) h12 hx with ⟨j, hj, rfl⟩ | ⟨h1, h2⟩
      · obtain ⟨n', rfl⟩ : ∃ n', c = n' + 1 := ⟨c - 1, by omega⟩
        by_cases h11 : n' = 11
        · exact ⟨-1, x, w, f, x, w, f, ztwf0 (sc := sc) 4 x w f n' j hx (by omega) h11, zmtf0 (sc := sc) 5 x w f n' j hy (by omega) h11, pm_I_mo hc h⟩
        have hn : n' < 11 := by omega
        have hij : f 0 j ≠ f 0 (n' + 1) := fun e => by
          have e2 := hfi 0 j (n' + 1) (by omega) (by omega) (by omega) e
          omega
        have y0 := (pm_twY0 (x := x) (j := j) hf hn).1
        have hq := pm_F_fl (Or.inl (hf (n' + 1) (by omega)).1)
        have hne := pm_F_ne _ (Or.inl (hf (n' + 1) (by omega)).1)
        refine ⟨Int32.ofNat (n' + 2), _, _, _, _, _, _, ztwi0 (sc := sc) 4 x w f n' j hx (by omega) hn hf hij, zmtw0 (sc := sc) 5 _ _ _ n' j ?_ (by omega) hn, pm_I_lw hA h (fun k i g => ?_) (fun k i g => ?_) (pm_tw0 hL hx (by omega) hn)⟩
        · rw [pm_cx_ne (Ne.symm hne.2.2.1), pm_up_ne (by decide)]
          exact hy
        · exact y0 k i (fun e => by rw [e] at g; exact absurd g (by decide)) (fun e => by rw [e] at g; exact absurd g (by decide)) (fun e => by rw [e] at g; exact absurd g (by decide)) (fun e => by rw [e, hq] at g; cases g)
        · exact congrFun (pm_cw_ne (fun e => by rw [e, hq] at g; cases g)) i
      · exact pm_go_of (z580u (sc := sc) 4 b x w f h1) rfl (z1050u (sc := sc) 5 b x w f (h2 x w f hy)) rfl (pm_I_mo hc h)
    · obtain ⟨c, h12, hx, hy, hF⟩ := l1
      rcases pm_uw1 (w := w) (f := f) (e := b) h12 hx with ⟨j, hj, rfl⟩ | ⟨h1, h2⟩
      · obtain ⟨n', rfl⟩ : ∃ n', c = n' + 1 := ⟨c - 1, by omega⟩
        by_cases h11 : n' = 11
        · exact ⟨-1, x, w, f, x, w, f, ztwf1 (sc := sc) 4 x w f n' j hx (by omega) h11, zmtf1 (sc := sc) 5 x w f n' j hy (by omega) h11, pm_I_mo hc h⟩
        have hn : n' < 11 := by omega
        have hij : f 1 j ≠ f 1 (n' + 1) := fun e => by
          have e2 := hfi 1 j (n' + 1) (by omega) (by omega) (by omega) e
          omega
        have y0 := (pm_twY1 (x := x) (j := j) hf hn).1
        have hq := pm_F_fl (Or.inr (hf (n' + 1) (by omega)).2)
        have hne := pm_F_ne _ (Or.inr (hf (n' + 1) (by omega)).2)
        refine ⟨Int32.ofNat (n' + 2), _, _, _, _, _, _, ztwi1 (sc := sc) 4 x w f n' j hx (by omega) hn hf hij, zmtw1 (sc := sc) 5 _ _ _ n' j ?_ (by omega) hn, pm_I_lw hA h (fun k i g => ?_) (fun k i g => ?_) (pm_tw1 hL hx (by omega) hn)⟩
        · rw [pm_cx_ne (Ne.symm hne.2.2.1), pm_up_ne (by decide)]
          exact hy
        · exact y0 k i (fun e => by rw [e] at g; exact absurd g (by decide)) (fun e => by rw [e] at g; exact absurd g (by decide)) (fun e => by rw [e] at g; exact absurd g (by decide)) (fun e => by rw [e, hq] at g; cases g)
        · exact congrFun (pm_cw_ne (fun e => by rw [e, hq] at g; cases g)) i
      · exact pm_go_of (z581u (sc := sc) 4 b x w f h1) rfl (z1051u (sc := sc) 5 b x w f (h2 x w f hy)) rfl (pm_I_mo hc h)
  · exact pm_go_of (z58s (sc := sc) 4 a b x w f ha Bool.false_ne_true) rfl (z105s (sc := sc) 5 a b x w f (pm_q91_s ha) rfl) rfl (pm_I_mo hc h)

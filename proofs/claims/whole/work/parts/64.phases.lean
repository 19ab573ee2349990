/-! The whole relation through the counts, the state and the leaves of one step. -/
def pm_ta (k j : Nat) : Bool := ((Nat.beq k 29 || Nat.beq k 48) && ((Nat.ble 4 j && Nat.ble j 8) || Nat.beq j 12)) || (Nat.ble 68 k && Nat.ble k 71) || (Nat.beq k 67 && Nat.beq j 20)
theorem pm_px_ta : ∀ q ∈ pm_px, pm_ta q.1.1 q.1.2 = false ∧ pm_ta q.2.1.1 q.2.1.2 = false := by decide +kernel
theorem pm_tu {x : Nat → Nat → Int32} {k j p r : Nat} {c : Int32} (h : pm_ta k j = false) (h2 : pm_ta p r = true) : pm_up x p r c k j = x k j := by
  rw [pm_up_eq, if_neg]
  rintro ⟨rfl, rfl⟩
  rw [h] at h2
  cases h2
theorem pm_J_c {α : Type} {a b a' b' : Nat → Nat → α} {k j : Nat} (h1 : a' k j = a k j) (h2 : b' k j = b k j) : pm_J a' b' k j = pm_J a b k j := by
  unfold pm_J
  rw [h1, h2]
theorem pm_R1_t {z z' : Nat → Nat → Int32} (h : pm_R1 z) (e : ∀ q ∈ pm_px, z' q.1.1 q.1.2 = z q.1.1 q.1.2 ∧ z' q.2.1.1 q.2.1.2 = z q.2.1.1 q.2.1.2) : pm_R1 z' := by
  intro q hq
  rw [(e q hq).1, (e q hq).2]
  exact h q hq
theorem pm_F_bd {f : Nat → Nat → Nat} (hf : pm_ff f) {s j : Nat} (hs : s < 2) (hj : j < 12) : 3 ≤ f s j ∧ f s j ≤ 28 := by
  have h0 := pm_F0_ne (hf j hj).1
  have h1 := pm_F1_ne (hf j hj).2
  have c : s = 0 ∨ s = 1 := by omega
  rcases c with rfl | rfl <;> omega
theorem pm_Ls_t {z z' : Nat → Nat → Int32} {u u' : Nat → Nat → Bool} {f : Nat → Nat → Nat} (h : pm_Ls z u f) (e : ∀ k j, (1 ≤ k ∧ k ≤ 28) ∨ k = 74 ∨ k = 75 → z' k j = z k j) (eu : ∀ k j, 3 ≤ k → k ≤ 28 → u' k j = u k j) : pm_Ls z' u' f := by
  obtain ⟨hf, h0, h1, hfi⟩ := h
  refine ⟨hf, pm_Li_c h0 (e 1 1 (by omega)) (e 74 0 (by omega)) (fun j hj k => ?_) (fun i r _ _ => e 75 _ (by omega)) (fun _ _ => rfl), pm_Li_c h1 (e 15 1 (by omega)) (e 74 1 (by omega)) (fun j hj k => ?_) (fun i r _ _ => e 75 _ (by omega)) (fun _ _ => rfl), hfi⟩
  · have := pm_F_bd hf (s := 0) (by omega) hj
    exact ⟨e _ _ (by omega), eu _ _ (by omega) (by omega)⟩
  · have := pm_F_bd hf (s := 1) (by omega) hj
    exact ⟨e _ _ (by omega), eu _ _ (by omega) (by omega)⟩
theorem pm_ta_l {k j : Nat} (h : (1 ≤ k ∧ k ≤ 28) ∨ k = 74 ∨ k = 75) : pm_ta k j = false := by
  have c : ∀ k, k < 29 → ¬ (k = 29) ∧ ¬ (k = 48) ∧ ¬ (68 ≤ k) ∧ ¬ k = 67 := by omega
  rcases h with h | rfl | rfl
  · have d : ∀ k, k < 29 → (Nat.beq k 29 || Nat.beq k 48) = false ∧ Nat.ble 68 k = false ∧ Nat.beq k 67 = false := by decide
    obtain ⟨d1, d2, d3⟩ := d k (by omega)
    unfold pm_ta
    rw [d1, d2, d3]
    rfl
  · rfl
  · rfl
/-- what of the relation doesn't see counts and states -/
theorem pm_pa_k {x y x2 y2 : Nat → Nat → Int32} {w v : Nat → Nat → Bool} {f : Nat → Nat → Nat} {N M : Nat} (h : pm_KK N (pm_J x y) (pm_J w v) f) (e : ∀ k j, pm_ta k j = false → pm_J x2 y2 k j = pm_J x y k j) (hB : pm_Bs M (pm_J x2 y2)) : pm_KK M (pm_J x2 y2) (pm_J w v) f := by
  obtain ⟨h1, h2, h3, h4, h5, h6⟩ := h
  exact ⟨pm_R1_t h1 (fun q hq => ⟨e _ _ (pm_px_ta q hq).1, e _ _ (pm_px_ta q hq).2⟩), h2, hB, pm_N_c h4 (fun r => e 31 r rfl) (fun _ => rfl) rfl (fun r _ => e 73 _ rfl), pm_N_c h5 (fun r => e 50 r rfl) (fun _ => rfl) rfl (fun r _ => e 73 _ rfl), pm_Ls_t h6 (fun k j g => e k j (pm_ta_l g)) (fun _ _ _ _ => rfl)⟩
theorem pm_P0_of {N : Nat} {z : Nat → Nat → Int32} {u : Nat → Nat → Bool} {f : Nat → Nat → Nat} (h : pm_KK N z u f) : pm_P0 z u := by
  obtain ⟨h1, h2, h3, h4, h5, h6⟩ := h
  have s := pm_Sd_of h3 h4 h5 h6
  exact ⟨h1, h2, s.1, s.2.1, s.2.2.2.2.2.2.2.2.1, h4, h5⟩
theorem pm_pb_0 {x y x3 y3 : Nat → Nat → Int32} {w v w3 v3 : Nat → Nat → Bool} {f : Nat → Nat → Nat} {N : Nat} (h : pm_KK N (pm_J x y) (pm_J w v) f) (c : pm_CH0 x w y v x3 w3 y3 v3) : pm_KK N (pm_J x3 y3) (pm_J w3 v3) f := by
  obtain ⟨h1, h2, h3, h4, h5, h6⟩ := h
  obtain ⟨a1, a2, hl⟩ := c
  have ex : ∀ k j, ¬ (32 ≤ k ∧ k ≤ 46 ∧ k % 2 = 0) → ¬ (76 ≤ k ∧ k ≤ 83) → pm_J x3 y3 k j = pm_J x y k j := fun k j g1 g2 => pm_J_c (by rw [(a1 k g1).1]) (by rw [(a2 k g2).1])
  have ew : ∀ k j, ¬ (32 ≤ k ∧ k ≤ 46 ∧ k % 2 = 0) → ¬ (76 ≤ k ∧ k ≤ 83) → pm_J w3 v3 k j = pm_J w v k j := fun k j g1 g2 => pm_J_c (by rw [(a1 k g1).2]) (by rw [(a2 k g2).2])
  have bb : ∀ p ∈ pm_bs, ¬ (32 ≤ p.1 ∧ p.1 ≤ 46 ∧ p.1 % 2 = 0) ∧ ¬ (76 ≤ p.1 ∧ p.1 ≤ 83) := by decide
  refine ⟨pm_R1_CH h1 hl (fun aa _ g => (a1 aa (by omega)).1) (a2 67 (by omega)).1 (a2 84 (by omega)).1, pm_B1_CH h2 hl (a1 29 (by omega)).2 (a2 67 (by omega)).2, pm_Bs_t (Nat.le_refl N) h3 (fun p hp => ex _ _ (bb p hp).1 (bb p hp).2), pm_N_c h4 (fun r => ex 31 r (by omega) (by omega)) (fun r => ew 31 r (by omega) (by omega)) (ew 72 0 (by omega) (by omega)) (fun r _ => ex 73 _ (by omega) (by omega)), pm_N_c h5 (fun r => ex 50 r (by omega) (by omega)) (fun r => ew 50 r (by omega) (by omega)) (ew 72 1 (by omega) (by omega)) (fun r _ => ex 73 _ (by omega) (by omega)), pm_Ls_t h6 (fun k j g => ex k j (by omega) (by omega)) (fun k j g1 g2 => ew k j (by omega) (by omega))⟩
theorem pm_pb_1 {x y x3 y3 : Nat → Nat → Int32} {w v w3 v3 : Nat → Nat → Bool} {f : Nat → Nat → Nat} {N : Nat} (h : pm_KK N (pm_J x y) (pm_J w v) f) (c : pm_CH1 x w y v x3 w3 y3 v3) : pm_KK N (pm_J x3 y3) (pm_J w3 v3) f := by
  obtain ⟨h1, h2, h3, h4, h5, h6⟩ := h
  obtain ⟨a1, a2, hl⟩ := c
  have ex : ∀ k j, ¬ (51 ≤ k ∧ k ≤ 65 ∧ k % 2 = 1) → ¬ (76 ≤ k ∧ k ≤ 83) → pm_J x3 y3 k j = pm_J x y k j := fun k j g1 g2 => pm_J_c (by rw [(a1 k g1).1]) (by rw [(a2 k g2).1])
  have ew : ∀ k j, ¬ (51 ≤ k ∧ k ≤ 65 ∧ k % 2 = 1) → ¬ (76 ≤ k ∧ k ≤ 83) → pm_J w3 v3 k j = pm_J w v k j := fun k j g1 g2 => pm_J_c (by rw [(a1 k g1).2]) (by rw [(a2 k g2).2])
  have bb : ∀ p ∈ pm_bs, ¬ (51 ≤ p.1 ∧ p.1 ≤ 65 ∧ p.1 % 2 = 1) ∧ ¬ (76 ≤ p.1 ∧ p.1 ≤ 83) := by decide
  refine ⟨pm_R1_CH h1 hl (fun aa _ g => (a1 aa (by omega)).1) (a2 67 (by omega)).1 (a2 84 (by omega)).1, pm_B1_CH h2 hl (a1 29 (by omega)).2 (a2 67 (by omega)).2, pm_Bs_t (Nat.le_refl N) h3 (fun p hp => ex _ _ (bb p hp).1 (bb p hp).2), pm_N_c h4 (fun r => ex 31 r (by omega) (by omega)) (fun r => ew 31 r (by omega) (by omega)) (ew 72 0 (by omega) (by omega)) (fun r _ => ex 73 _ (by omega) (by omega)), pm_N_c h5 (fun r => ex 50 r (by omega) (by omega)) (fun r => ew 50 r (by omega) (by omega)) (ew 72 1 (by omega) (by omega)) (fun r _ => ex 73 _ (by omega) (by omega)), pm_Ls_t h6 (fun k j g => ex k j (by omega) (by omega)) (fun k j g1 g2 => ew k j (by omega) (by omega))⟩
section PMA
variable {x y : Nat → Nat → Int32} {w v : Nat → Nat → Bool} {f : Nat → Nat → Nat} {N : Nat}
/-- the train looks: its steps at rest -/
theorem pm_lk (h : pm_KK N (pm_J x y) (pm_J w v) f) {s : Int32} : ∃ r, r ≤ N + 1 ∧ q33a (pm_up x 29 4 s) w f = (pm_up (pm_up x 29 4 s) 29 12 (Int32.ofNat r), w) ∧ q900 y v f = q900_49 (Int32.ofNat (min r 1000)) (pm_up y 68 0 (y 68 0 + 1)) v f := by
  obtain ⟨h1, h2, h3, h4, h5, h6⟩ := h
  obtain ⟨r, r1, r2, e1, e2⟩ := h3.2.2.2
  have e1' : x 29 12 = Int32.ofNat r := e1
  have e2' : y 67 20 = Int32.ofNat (min r 1000) := e2
  have e3 : x 29 10 = y 67 18 := (h1 ((29, 10), (67, 18), (0, 30000)) (by decide +kernel)).1
  have z : pm_up x 29 4 s 29 10 = y 67 18 := e3
  have z2 : pm_up x 29 4 s 29 12 = Int32.ofNat r := e1'
  unfold q33a q900
  rw [z, z2, e2']
  by_cases g : y 67 18 = 0
  · refine ⟨r + 1, by omega, ?_, ?_⟩
    · rw [if_pos g, show Int32.ofNat r + 1 = Int32.ofNat (r + 1) from nI_1 r]
    · rw [if_pos g]
      by_cases g2 : 1000 ≤ r
      · rw [if_pos (show (1000 : Int32) ≤ Int32.ofNat (min r 1000) from nI_le (a := 1000) (by omega) (by omega)), show min (r + 1) 1000 = min r 1000 by omega]
      · rw [if_neg (show ¬ (1000 : Int32) ≤ Int32.ofNat (min r 1000) from nI_ge (b := 1000) (by omega) (by decide)), show Int32.ofNat (min r 1000) + 1 = Int32.ofNat (min r 1000 + 1) from nI_1 _, show min (r + 1) 1000 = min r 1000 + 1 by omega]
  · refine ⟨0, by omega, ?_, ?_⟩
    · rw [if_neg g]
      rfl
    · rw [if_neg g]
      rfl
end PMA
section PMA0
variable {x y : Nat → Nat → Int32} {w v : Nat → Nat → Bool} {f : Nat → Nat → Nat} {N : Nat}
theorem pm_pa_0 (h : pm_KK N (pm_J x y) (pm_J w v) f) (hN : N + 1 ≤ 256000) : ∃ x2 y2, q21a x w f = q21a_18 x2 w f ∧ q900 y v f = q900_64 (y 71 1) y2 v f ∧ pm_KK (N + 1) (pm_J x2 y2) (pm_J w v) f ∧ y2 71 1 = y 71 1 ∧ ∃ a, 1 ≤ a ∧ a ≤ 256000 ∧ x2 29 4 = Int32.ofNat a := by
  obtain ⟨⟨a, b, c, o, a1, a2, a3, a4, a5, e1, e2, e3, e4, e5, e6, e7, e8, e9⟩, hs1, hst, hre⟩ := h.2.2.1
  have e1' : x 29 4 = Int32.ofNat a := e1
  have e2' : y 68 0 = Int32.ofNat a := e2
  have e3' : x 29 6 = Int32.ofNat b := e3
  have e4' : y 70 0 = Int32.ofNat b := e4
  have e5' : x 29 8 = Int32.ofNat c := e5
  have e6' : y 71 0 = Int32.ofNat c := e6
  have e7' : x 29 7 = Int32.ofNat o := e7
  have e8' : x 29 5 = y 69 0 := e8
  have e9' : x 29 5 = 0 ∨ x 29 5 = 1 ∨ (x 29 5 = 2 ∧ a < b + 150) := e9
  obtain ⟨r, r1, hr1, hr2⟩ := pm_lk h (s := x 29 4 + 1)
  have i1 : x 29 4 + 1 = Int32.ofNat (a + 1) := by rw [e1']; exact nI_1 a
  have i2 : y 68 0 + 1 = Int32.ofNat (a + 1) := by rw [e2']; exact nI_1 a
  have ic : Int32.ofNat c + 1 = Int32.ofNat (c + 1) := nI_1 c
  let x1 := pm_up (pm_up x 29 4 (Int32.ofNat (a + 1))) 29 12 (Int32.ofNat r)
  let y1 := pm_up (pm_up y 68 0 (Int32.ofNat (a + 1))) 67 20 (Int32.ofNat (min r 1000))
  have q1 : q21a x w f = q21a_14 x1 w f := by
    unfold q21a
    rw [hr1, i1]
  have q2 : q900 y v f = q900_64 (y 71 1) (q870 y1 v f).1 (q870 y1 v f).2 f := by
    rw [hr2, i2]
    rfl
  have tr : ∀ (X Y : Nat → Nat → Int32), (∀ k j, pm_ta k j = false → X k j = x1 k j) → (∀ k j, pm_ta k j = false → Y k j = y1 k j) → ∀ k j, pm_ta k j = false → pm_J X Y k j = pm_J x y k j := by
    intro X Y hX hY k j g
    exact pm_J_c ((hX k j g).trans ((pm_tu g rfl).trans (pm_tu g rfl))) ((hY k j g).trans ((pm_tu g rfl).trans (pm_tu g rfl)))
  have hre1 : pm_Re (N + 1) (pm_J x1 y1) := ⟨r, r1, by omega, rfl, rfl⟩
  have hs11 : pm_Sx 48 1 (N + 1) (pm_J x1 y1) := pm_Sx_t (Nat.le_succ N) hs1 rfl rfl rfl rfl rfl rfl rfl rfl rfl
  have hst1 : pm_Sz (pm_J x1 y1) := pm_Sz_t hst rfl rfl
  have P1 : pm_P0 (pm_J x1 y1) (pm_J w v) := by
    have hp := pm_P0_of h
    have t := tr x1 y1 (fun _ _ _ => rfl) (fun _ _ _ => rfl)
    obtain ⟨p1, p2, p3, p4, p5, p6, p7⟩ := hp
    exact ⟨pm_R1_t p1 (fun q hq => ⟨t _ _ (pm_px_ta q hq).1, t _ _ (pm_px_ta q hq).2⟩), p2, rfl, p4, pm_Re_i hre1, pm_N_c p6 (fun r => t 31 r rfl) (fun _ => rfl) rfl (fun r _ => t 73 _ rfl), pm_N_c p7 (fun r => t 50 r rfl) (fun _ => rfl) rfl (fun r _ => t 73 _ rfl)⟩
  have e9n : x1 29 5 = 0 ∨ x1 29 5 = 1 ∨ (x1 29 5 = 2 ∧ a + 1 < b + 151) := by
    rcases e9' with g | g | ⟨g, g2⟩
    · exact Or.inl g
    · exact Or.inr (Or.inl g)
    · exact Or.inr (Or.inr ⟨g, by omega⟩)
  have K : ∀ (X Y : Nat → Nat → Int32), (∀ k j, pm_ta k j = false → X k j = x1 k j) → (∀ k j, pm_ta k j = false → Y k j = y1 k j) → pm_Sx 29 0 (N + 1) (pm_J X Y) → (∀ j, X 48 j = x 48 j) → (∀ k, Y k 1 = y1 k 1) → X 29 12 = x1 29 12 → Y 67 20 = y1 67 20 → pm_KK (N + 1) (pm_J X Y) (pm_J w v) f := by
    intro X Y hX hY hS h48 hY1 h12 h20
    have t := tr X Y hX hY
    exact pm_pa_k h t ⟨hS, pm_Sx_t (Nat.le_refl _) hs11 (h48 4) (h48 5) (h48 6) (h48 7) (h48 8) (hY1 68) (hY1 69) (hY1 70) (hY1 71), pm_Sz_t hst (t 0 2 rfl) (t 67 22 rfl), pm_Re_t (Nat.le_refl _) hre1 h12 h20⟩
  rcases pm_sc_0 (f := f) P1 (a := a + 1) (b := b) (by omega) (by omega) rfl rfl e3' e4' e8' e9n with ⟨k1, k2, k3⟩ | ⟨k1, k2⟩ | ⟨k1, k2⟩ | ⟨k1, k2⟩
  · refine ⟨x1, y1, ?_, ?_, ?_, rfl, a + 1, by omega, by omega, rfl⟩
    · rw [q1]; unfold q21a_14; rw [k1]
    · rw [q2, k2]
    · refine K x1 y1 (fun _ _ _ => rfl) (fun _ _ _ => rfl) ⟨a + 1, b, c, o, by omega, by omega, by omega, by omega, by omega, rfl, rfl, e3', e4', e5', e6', e7', e8', ?_⟩ (fun _ => rfl) (fun _ => rfl) rfl rfl
      rcases e9n with g | g | ⟨g, g2⟩
      · exact Or.inl g
      · exact Or.inr (Or.inl g)
      · exact Or.inr (Or.inr ⟨g, k3 g⟩)
  · refine ⟨pm_up (pm_up (pm_up x1 29 5 1) 29 7 (x1 29 4)) 29 8 (x1 29 8 + 1), pm_up (pm_up y1 69 0 1) 71 0 (y1 71 0 + 1), ?_, ?_, ?_, rfl, a + 1, by omega, by omega, rfl⟩
    · rw [q1]; unfold q21a_14; rw [k1]
    · rw [q2, k2]
    · refine K _ _ (fun k j g => (pm_tu g rfl).trans ((pm_tu g rfl).trans (pm_tu g rfl))) (fun k j g => (pm_tu g rfl).trans (pm_tu g rfl)) ⟨a + 1, b, c + 1, a + 1, by omega, by omega, by omega, by omega, by omega, rfl, rfl, e3', e4', ?_, ?_, rfl, rfl, Or.inr (Or.inl rfl)⟩ (fun _ => rfl) (fun k => ?_) rfl rfl
      · show x 29 8 + 1 = _
        rw [e5']; exact ic
      · show y 71 0 + 1 = _
        rw [e6']; exact ic
      · rw [pm_up_eq, if_neg (by omega), pm_up_eq, if_neg (by omega)]
  · refine ⟨pm_up (pm_up x1 29 5 2) 29 6 (x1 29 4), pm_up (pm_up y1 69 0 2) 70 0 (y1 68 0), ?_, ?_, ?_, rfl, a + 1, by omega, by omega, rfl⟩
    · rw [q1]; unfold q21a_14; rw [k1]
    · rw [q2, k2]
    · refine K _ _ (fun k j g => (pm_tu g rfl).trans (pm_tu g rfl)) (fun k j g => (pm_tu g rfl).trans (pm_tu g rfl)) ⟨a + 1, a + 1, c, o, by omega, by omega, by omega, by omega, by omega, rfl, rfl, rfl, rfl, e5', e6', e7', rfl, Or.inr (Or.inr ⟨rfl, by omega⟩)⟩ (fun _ => rfl) (fun k => ?_) rfl rfl
      rw [pm_up_eq, if_neg (by omega), pm_up_eq, if_neg (by omega)]
  · refine ⟨pm_up x1 29 5 0, pm_up y1 69 0 0, ?_, ?_, ?_, rfl, a + 1, by omega, by omega, rfl⟩
    · rw [q1]; unfold q21a_14; rw [k1]
    · rw [q2, k2]
    · refine K _ _ (fun k j g => pm_tu g rfl) (fun k j g => pm_tu g rfl) ⟨a + 1, b, c, o, by omega, by omega, by omega, by omega, by omega, rfl, rfl, e3', e4', e5', e6', e7', rfl, Or.inl rfl⟩ (fun _ => rfl) (fun k => ?_) rfl rfl
      rw [pm_up_eq, if_neg (by omega)]
end PMA0
section PMA1
variable {x y : Nat → Nat → Int32} {w v : Nat → Nat → Bool} {f : Nat → Nat → Nat} {N : Nat}
theorem pm_pa_1 (h : pm_KK N (pm_J x y) (pm_J w v) f) (hN : N + 1 ≤ 256000) : ∃ x2 y2, q21b x w f = q21b_18 x2 w f ∧ q901 y v f = q901_64 (y 71 1) y2 v f ∧ pm_KK (N + 1) (pm_J x2 y2) (pm_J w v) f ∧ ((x2 48 7 = x2 48 4 ∧ ¬ y2 71 1 ≤ y 71 1) ∨ (¬ x2 48 7 = x2 48 4 ∧ y2 71 1 ≤ y 71 1)) ∧ ∃ a, 1 ≤ a ∧ a ≤ 256000 ∧ x2 48 4 = Int32.ofNat a := by
  obtain ⟨hs0, ⟨a, b, c, o, a1, a2, a3, a4, a5, e1, e2, e3, e4, e5, e6, e7, e8, e9⟩, hst, hre⟩ := h.2.2.1
  have e1' : x 48 4 = Int32.ofNat a := e1
  have e2' : y 68 1 = Int32.ofNat a := e2
  have e3' : x 48 6 = Int32.ofNat b := e3
  have e4' : y 70 1 = Int32.ofNat b := e4
  have e5' : x 48 8 = Int32.ofNat c := e5
  have e6' : y 71 1 = Int32.ofNat c := e6
  have e7' : x 48 7 = Int32.ofNat o := e7
  have e8' : x 48 5 = y 69 1 := e8
  have e9' : x 48 5 = 0 ∨ x 48 5 = 1 ∨ (x 48 5 = 2 ∧ a < b + 150) := e9
  have i1 : x 48 4 + 1 = Int32.ofNat (a + 1) := by rw [e1']; exact nI_1 a
  have i2 : y 68 1 + 1 = Int32.ofNat (a + 1) := by rw [e2']; exact nI_1 a
  have ic : Int32.ofNat c + 1 = Int32.ofNat (c + 1) := nI_1 c
  have no : ¬ x 48 7 = Int32.ofNat (a + 1) := by
    rw [e7']
    intro g
    have := (nI_eq (by omega) (by omega)).mp (show nI o = nI (a + 1) from g)
    omega
  let x1 := pm_up x 48 4 (Int32.ofNat (a + 1))
  let y1 := pm_up y 68 1 (Int32.ofNat (a + 1))
  have q1 : q21b x w f = q21b_18 (q22b x1 w f).1 (q22b x1 w f).2 f := by
    unfold q21b
    rw [i1]
  have q2 : q901 y v f = q901_64 (y 71 1) (q871 y1 v f).1 (q871 y1 v f).2 f := by
    unfold q901
    rw [i2]
  have tr : ∀ (X Y : Nat → Nat → Int32), (∀ k j, pm_ta k j = false → X k j = x1 k j) → (∀ k j, pm_ta k j = false → Y k j = y1 k j) → ∀ k j, pm_ta k j = false → pm_J X Y k j = pm_J x y k j := by
    intro X Y hX hY k j g
    exact pm_J_c ((hX k j g).trans (pm_tu g rfl)) ((hY k j g).trans (pm_tu g rfl))
  have hs01 : pm_Sx 29 0 (N + 1) (pm_J x1 y1) := pm_Sx_t (Nat.le_succ N) hs0 rfl rfl rfl rfl rfl rfl rfl rfl rfl
  have P1 : pm_P0 (pm_J x1 y1) (pm_J w v) := by
    have hp := pm_P0_of h
    have t := tr x1 y1 (fun _ _ _ => rfl) (fun _ _ _ => rfl)
    obtain ⟨p1, p2, p3, p4, p5, p6, p7⟩ := hp
    exact ⟨pm_R1_t p1 (fun q hq => ⟨t _ _ (pm_px_ta q hq).1, t _ _ (pm_px_ta q hq).2⟩), p2, p3, rfl, p5, pm_N_c p6 (fun r => t 31 r rfl) (fun _ => rfl) rfl (fun r _ => t 73 _ rfl), pm_N_c p7 (fun r => t 50 r rfl) (fun _ => rfl) rfl (fun r _ => t 73 _ rfl)⟩
  have e9n : x1 48 5 = 0 ∨ x1 48 5 = 1 ∨ (x1 48 5 = 2 ∧ a + 1 < b + 151) := by
    rcases e9' with g | g | ⟨g, g2⟩
    · exact Or.inl g
    · exact Or.inr (Or.inl g)
    · exact Or.inr (Or.inr ⟨g, by omega⟩)
  have K : ∀ (X Y : Nat → Nat → Int32), (∀ k j, pm_ta k j = false → X k j = x1 k j) → (∀ k j, pm_ta k j = false → Y k j = y1 k j) → pm_Sx 48 1 (N + 1) (pm_J X Y) → (∀ j, X 29 j = x1 29 j) → (∀ k, Y k 0 = y1 k 0) → Y 67 20 = y1 67 20 → pm_KK (N + 1) (pm_J X Y) (pm_J w v) f := by
    intro X Y hX hY hS h29 hY0 h20
    have t := tr X Y hX hY
    exact pm_pa_k h t ⟨pm_Sx_t (Nat.le_refl _) hs01 (h29 4) (h29 5) (h29 6) (h29 7) (h29 8) (hY0 68) (hY0 69) (hY0 70) (hY0 71), hS, pm_Sz_t hst (t 0 2 rfl) (t 67 22 rfl), pm_Re_t (Nat.le_succ N) hre (h29 12) h20⟩
  rcases pm_sc_1 (f := f) P1 (a := a + 1) (b := b) (by omega) (by omega) rfl rfl e3' e4' e8' e9n with ⟨k1, k2, k3⟩ | ⟨k1, k2⟩ | ⟨k1, k2⟩ | ⟨k1, k2⟩
  · refine ⟨x1, y1, ?_, ?_, ?_, Or.inr ⟨no, Int32.le_refl _⟩, a + 1, by omega, by omega, rfl⟩
    · rw [q1, k1]
    · rw [q2, k2]
    · refine K x1 y1 (fun _ _ _ => rfl) (fun _ _ _ => rfl) ⟨a + 1, b, c, o, by omega, by omega, by omega, by omega, by omega, rfl, rfl, e3', e4', e5', e6', e7', e8', ?_⟩ (fun _ => rfl) (fun _ => rfl) rfl
      rcases e9n with g | g | ⟨g, g2⟩
      · exact Or.inl g
      · exact Or.inr (Or.inl g)
      · exact Or.inr (Or.inr ⟨g, k3 g⟩)
  · refine ⟨pm_up (pm_up (pm_up x1 48 5 1) 48 7 (x1 48 4)) 48 8 (x1 48 8 + 1), pm_up (pm_up y1 69 1 1) 71 1 (y1 71 1 + 1), ?_, ?_, ?_, Or.inl ⟨rfl, ?_⟩, a + 1, by omega, by omega, rfl⟩
    · rw [q1, k1]
    · rw [q2, k2]
    · refine K _ _ (fun k j g => (pm_tu g rfl).trans ((pm_tu g rfl).trans (pm_tu g rfl))) (fun k j g => (pm_tu g rfl).trans (pm_tu g rfl)) ⟨a + 1, b, c + 1, a + 1, by omega, by omega, by omega, by omega, by omega, rfl, rfl, e3', e4', ?_, ?_, rfl, rfl, Or.inr (Or.inl rfl)⟩ (fun _ => rfl) (fun k => ?_) rfl
      · show x 48 8 + 1 = _
        rw [e5']; exact ic
      · show y 71 1 + 1 = _
        rw [e6']; exact ic
      · rw [pm_up_eq, if_neg (by omega), pm_up_eq, if_neg (by omega)]
    · show ¬ y 71 1 + 1 ≤ y 71 1
      rw [e6', ic]
      exact nI_ge (by omega) (by omega)
  · refine ⟨pm_up (pm_up x1 48 5 2) 48 6 (x1 48 4), pm_up (pm_up y1 69 1 2) 70 1 (y1 68 1), ?_, ?_, ?_, Or.inr ⟨no, Int32.le_refl _⟩, a + 1, by omega, by omega, rfl⟩
    · rw [q1, k1]
    · rw [q2, k2]
    · refine K _ _ (fun k j g => (pm_tu g rfl).trans (pm_tu g rfl)) (fun k j g => (pm_tu g rfl).trans (pm_tu g rfl)) ⟨a + 1, a + 1, c, o, by omega, by omega, by omega, by omega, by omega, rfl, rfl, rfl, rfl, e5', e6', e7', rfl, Or.inr (Or.inr ⟨rfl, by omega⟩)⟩ (fun _ => rfl) (fun k => ?_) rfl
      rw [pm_up_eq, if_neg (by omega), pm_up_eq, if_neg (by omega)]
  · refine ⟨pm_up x1 48 5 0, pm_up y1 69 1 0, ?_, ?_, ?_, Or.inr ⟨no, Int32.le_refl _⟩, a + 1, by omega, by omega, rfl⟩
    · rw [q1, k1]
    · rw [q2, k2]
    · refine K _ _ (fun k j g => pm_tu g rfl) (fun k j g => pm_tu g rfl) ⟨a + 1, b, c, o, by omega, by omega, by omega, by omega, by omega, rfl, rfl, e3', e4', e5', e6', e7', rfl, Or.inl rfl⟩ (fun _ => rfl) (fun k => ?_) rfl
      rw [pm_up_eq, if_neg (by omega)]
end PMA1

/-! Two memories in one: the class's places from the first, the reference's from the second. The rest B. -/
def pm_J {α : Type} (a b : Nat → Nat → α) : Nat → Nat → α := fun k j => bif Nat.ble 67 k then b k j else a k j
theorem pm_J_l {α : Type} {a b : Nat → Nat → α} {k j : Nat} (h : k < 67) : pm_J a b k j = a k j := by
  unfold pm_J
  rw [show Nat.ble 67 k = false from Bool.eq_false_iff.mpr (fun g => by have := Nat.le_of_ble_eq_true g; omega)]
  rfl
theorem pm_J_g {α : Type} {a b : Nat → Nat → α} {k j : Nat} (h : 67 ≤ k) : pm_J a b k j = b k j := by
  unfold pm_J
  rw [show Nat.ble 67 k = true from Nat.ble_eq_true_of_le h]
  rfl
theorem pm_J_s {α : Type} {a : Nat → Nat → α} : pm_J a a = a := by
  funext k j
  unfold pm_J
  cases Nat.ble 67 k <;> rfl
/-- what holds of the numbers of one side -/
def pm_Sx (P s N : Nat) (x : Nat → Nat → Int32) : Prop := ∃ a b c o, a ≤ N ∧ a ≤ 256000 ∧ b ≤ a ∧ c ≤ a ∧ o ≤ a ∧ x P 4 = Int32.ofNat a ∧ x 68 s = Int32.ofNat a ∧ x P 6 = Int32.ofNat b ∧ x 70 s = Int32.ofNat b ∧ x P 8 = Int32.ofNat c ∧ x 71 s = Int32.ofNat c ∧ x P 7 = Int32.ofNat o ∧ x P 5 = x 69 s ∧ (x P 5 = 0 ∨ x P 5 = 1 ∨ (x P 5 = 2 ∧ a < b + 150))
def pm_Sz (x : Nat → Nat → Int32) : Prop := x 0 2 = x 67 22 ∨ (x 0 2 = -1000000 ∧ x 67 22 = -1000)
def pm_Re (N : Nat) (x : Nat → Nat → Int32) : Prop := ∃ r, r ≤ N ∧ r ≤ 256000 ∧ x 29 12 = Int32.ofNat r ∧ x 67 20 = Int32.ofNat (min r 1000)
def pm_Bs (N : Nat) (x : Nat → Nat → Int32) : Prop := pm_Sx 29 0 N x ∧ pm_Sx 48 1 N x ∧ pm_Sz x ∧ pm_Re N x
theorem pm_Sx_t {P s N M : Nat} {x y : Nat → Nat → Int32} (hN : N ≤ M) (h : pm_Sx P s N x) (h4 : y P 4 = x P 4) (h5 : y P 5 = x P 5) (h6 : y P 6 = x P 6) (h7 : y P 7 = x P 7) (h8 : y P 8 = x P 8) (g8 : y 68 s = x 68 s) (g9 : y 69 s = x 69 s) (g0 : y 70 s = x 70 s) (g1 : y 71 s = x 71 s) : pm_Sx P s M y := by
  obtain ⟨a, b, c, o, a1, a2, a3, a4, a5, e1, e2, e3, e4, e5, e6, e7, e8, e9⟩ := h
  refine ⟨a, b, c, o, by omega, a2, a3, a4, a5, h4.trans e1, g8.trans e2, h6.trans e3, g0.trans e4, h8.trans e5, g1.trans e6, h7.trans e7, ?_, ?_⟩
  · rw [h5, g9]; exact e8
  · rw [h5]; exact e9
theorem pm_Sz_t {x y : Nat → Nat → Int32} (h : pm_Sz x) (h1 : y 0 2 = x 0 2) (h2 : y 67 22 = x 67 22) : pm_Sz y := by
  unfold pm_Sz
  rw [h1, h2]
  exact h
theorem pm_Re_t {N M : Nat} {x y : Nat → Nat → Int32} (hN : N ≤ M) (h : pm_Re N x) (h1 : y 29 12 = x 29 12) (h2 : y 67 20 = x 67 20) : pm_Re M y := by
  obtain ⟨r, r1, r2, e1, e2⟩ := h
  exact ⟨r, by omega, r2, h1.trans e1, h2.trans e2⟩
def pm_bs : List (Nat × Nat) := [(29, 4), (29, 5), (29, 6), (29, 7), (29, 8), (68, 0), (69, 0), (70, 0), (71, 0), (48, 4), (48, 5), (48, 6), (48, 7), (48, 8), (68, 1), (69, 1), (70, 1), (71, 1), (0, 2), (67, 22), (29, 12), (67, 20)]
theorem pm_Bs_t {N M : Nat} {x y : Nat → Nat → Int32} (hN : N ≤ M) (h : pm_Bs N x) (e : ∀ p ∈ pm_bs, y p.1 p.2 = x p.1 p.2) : pm_Bs M y := by
  obtain ⟨h1, h2, h3, h4⟩ := h
  refine ⟨pm_Sx_t hN h1 (e (29, 4) (by decide)) (e (29, 5) (by decide)) (e (29, 6) (by decide)) (e (29, 7) (by decide)) (e (29, 8) (by decide)) (e (68, 0) (by decide)) (e (69, 0) (by decide)) (e (70, 0) (by decide)) (e (71, 0) (by decide)), pm_Sx_t hN h2 (e (48, 4) (by decide)) (e (48, 5) (by decide)) (e (48, 6) (by decide)) (e (48, 7) (by decide)) (e (48, 8) (by decide)) (e (68, 1) (by decide)) (e (69, 1) (by decide)) (e (70, 1) (by decide)) (e (71, 1) (by decide)), pm_Sz_t h3 (e (0, 2) (by decide)) (e (67, 22) (by decide)), pm_Re_t hN h4 (e (29, 12) (by decide)) (e (67, 20) (by decide))⟩
def pm_B : pm_Av := fun n x _ => pm_Bs (500 * n) x
theorem pm_bs_ok : ∀ p ∈ pm_bs, pm_fn p.1 = true ∧ pm_fx p.1 p.2 = true := by decide +kernel
theorem pm_CB_B : pm_CB pm_B := by
  intro n x w x' w' hx hw h
  exact pm_Bs_t (by omega) h (fun p hp => hx p.1 p.2 (pm_bs_ok p hp).1 (pm_bs_ok p hp).2)
theorem pm_Re_i {N : Nat} {x : Nat → Nat → Int32} (h : pm_Re N x) : x 29 12 < 20 ↔ x 67 20 < 20 := by
  obtain ⟨r, -, r2, e1, e2⟩ := h
  rw [e1, e2]
  refine (show Int32.ofNat r < Int32.ofNat 20 ↔ r < 20 from nI_ltI (by omega) (by omega)).trans ?_
  refine Iff.trans ?_ (show Int32.ofNat (min r 1000) < Int32.ofNat 20 ↔ min r 1000 < 20 from nI_ltI (by omega) (by omega)).symm
  omega
theorem pm_Sd_of {N : Nat} {x : Nat → Nat → Int32} {w : Nat → Nat → Bool} {f : Nat → Nat → Nat} (h : pm_Bs N x) (h1 : pm_N 31 0 0 x w) (h2 : pm_N 50 1 6 x w) (hl : pm_Ls x w f) : pm_Sd x w := by
  obtain ⟨⟨a, b, c, o, a1, a2, a3, a4, a5, e1, e2, e3, e4, e5, e6, e7, e8, e9⟩, ⟨a', b', c', o', a1', a2', a3', a4', a5', e1', e2', e3', e4', e5', e6', e7', e8', e9'⟩, h3, h4⟩ := h
  obtain ⟨-, ⟨n0, -, l1, l2, -⟩, ⟨n1, -, l3, l4, -⟩, -⟩ := hl
  exact ⟨e1.trans e2.symm, e1'.trans e2'.symm, e8, e8', e5.trans e6.symm, e5'.trans e6'.symm, l1.trans l2.symm, l3.trans l4.symm, pm_Re_i h4, h1, h2⟩
theorem pm_Hs_B : pm_Hs (pm_R3 (pm_Ab pm_B)) := by
  intro n x w f h
  exact pm_Sd_of h.1.1 h.1.2.1 h.1.2.2 h.2
/-- the whole relation, with a bound of the steps -/
def pm_KK (N : Nat) (x : Nat → Nat → Int32) (w : Nat → Nat → Bool) (f : Nat → Nat → Nat) : Prop := pm_R1 x ∧ pm_B1 w ∧ pm_Bs N x ∧ pm_N 31 0 0 x w ∧ pm_N 50 1 6 x w ∧ pm_Ls x w f

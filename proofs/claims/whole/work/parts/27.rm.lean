/-! Lines: the frames of a line are moved by reference. -/
theorem pm_lt11 {i : Nat} (h : i < 11) : i = 0 ∨ i = 1 ∨ i = 2 ∨ i = 3 ∨ i = 4 ∨ i = 5 ∨ i = 6 ∨ i = 7 ∨ i = 8 ∨ i = 9 ∨ i = 10 := by omega
theorem pm_asta_of {α : Type} {st : List pm_V} {u : pm_S} {q k len : Nat} {i : Int32} {kg : List pm_V → pm_S → α} {kn : α} (ha : pm_arr u.1 k = some (2, len)) (hc : pm_cls u.1 q = some 1) (hi : pm_ib i len = true) : pm_asta (pm_r q :: .inl i :: pm_r k :: st) u kg kn = kg st (u.1, u.2.1, u.2.2.1, pm_up u.2.2.2 k i.toNatClampNeg (some q)) := by
  unfold pm_asta
  simp only [ha, hc]
  rw [hi]
  rfl
theorem pm_R_up0 {f : Nat → Nat → Nat} {j q : Nat} (hj : j < 12) : pm_up (pm_R f) 2 j (some q) = pm_R (pm_up f 0 j q) := by
  funext k a
  rw [pm_up_eq]
  by_cases h : k = 2 ∧ a = j
  · obtain ⟨rfl, rfl⟩ := h
    rw [if_pos ⟨rfl, rfl⟩]
    show some q = bif Nat.blt a 12 then some (pm_up f 0 a q 0 a) else none
    rw [show Nat.blt a 12 = true from Nat.ble_eq_true_of_le hj, pm_up_at, if_pos rfl]
    rfl
  · rw [if_neg h]
    unfold pm_R
    cases hk : Nat.beq k 2 with
    | true =>
      have e := pm_beq hk
      have ha : a ≠ j := fun z => h ⟨e, z⟩
      rw [pm_up_at, if_neg ha]
      rfl
    | false =>
      rw [pm_up_ne (x := f) (show (1 : Nat) ≠ 0 by decide)]
      rfl
theorem pm_R_up1 {f : Nat → Nat → Nat} {j q : Nat} (hj : j < 12) : pm_up (pm_R f) 16 j (some q) = pm_R (pm_up f 1 j q) := by
  funext k a
  rw [pm_up_eq]
  by_cases h : k = 16 ∧ a = j
  · obtain ⟨rfl, rfl⟩ := h
    rw [if_pos ⟨rfl, rfl⟩]
    show some q = bif Nat.blt a 12 then some (pm_up f 1 a q 1 a) else none
    rw [show Nat.blt a 12 = true from Nat.ble_eq_true_of_le hj, pm_up_at, if_pos rfl]
    rfl
  · rw [if_neg h]
    unfold pm_R
    cases hk : Nat.beq k 2 with
    | true =>
      rw [pm_up_ne (x := f) (show (0 : Nat) ≠ 1 by decide)]
      rfl
    | false =>
      cases hk2 : Nat.beq k 16 with
      | true =>
        have e := pm_beq hk2
        have ha : a ≠ j := fun z => h ⟨e, z⟩
        rw [pm_up_at, if_neg ha]
        rfl
      | false => rfl
theorem pm_ib_of {i n : Nat} (h : i < n) (hn : n < 2 ^ 31) : pm_ib (Int32.ofNat i) n = true := by
  have h1 : ¬ (Int32.ofNat i) < 0 := nI_pos (by omega)
  have h2 : (Int32.ofNat i).toNatClampNeg = i := nI_clamp (by omega)
  unfold pm_ib
  rw [h2, decide_eq_false h1]
  simp only [Bool.not_false, Bool.true_and]
  exact Nat.ble_eq_true_of_le h
theorem rm_b0 {c : Nat → List pm_V → pm_S → Option pm_Rs} {sc : pm_Sc} (x : Nat → Nat → Int32) (w : Nat → Nat → Bool) (f : Nat → Nat → Nat) (i g : Nat) (kk : Int32) (hi : i < 11) : pm_ev c sc 0 pm_c17 9 [(3, .inl (Int32.ofNat i)), (2, pm_r g), (0, pm_r 1), (1, .inl kk)] [] (pm_u x w f) = if x 1 1 - 1 ≤ Int32.ofNat i then pm_ev c sc 0 pm_c17 39 [(3, .inl (Int32.ofNat i)), (2, pm_r g), (0, pm_r 1), (1, .inl kk)] [] (pm_u x w f) else pm_ev c sc 0 pm_c17 32 [(3, .inl (Int32.ofNat i)), (2, pm_r g), (0, pm_r 1), (1, .inl kk)] [pm_r (f 0 (i + 1)), .inl (Int32.ofNat i), pm_r 2] (pm_u x w f) := by
  rcases pm_lt11 hi with rfl | rfl | rfl | rfl | rfl | rfl | rfl | rfl | rfl | rfl | rfl <;> exact (pm_ev_iter [39, 32] 60 _ _ _ _).trans rfl
theorem rm_c0 {c : Nat → List pm_V → pm_S → Option pm_Rs} {sc : pm_Sc} (x : Nat → Nat → Int32) (w : Nat → Nat → Bool) (f : Nat → Nat → Nat) (i g q : Nat) (kk : Int32) (hi : i < 11) (hq : pm_cls 85 q = some 1) : pm_ev c sc 0 pm_c17 32 [(3, .inl (Int32.ofNat i)), (2, pm_r g), (0, pm_r 1), (1, .inl kk)] [pm_r q, .inl (Int32.ofNat i), pm_r 2] (pm_u x w f) = pm_ev c sc 0 pm_c17 9 [(3, .inl (Int32.ofNat (i + 1))), (2, pm_r g), (0, pm_r 1), (1, .inl kk)] [] (pm_u x w (pm_up f 0 i q)) := by
  rw [pm_ev_step]
  refine (pm_asta_of (u := pm_u x w f) (len := 12) rfl hq (pm_ib_of (by omega) (by decide))).trans ?_
  rw [show (Int32.ofNat i).toNatClampNeg = i from nI_clamp (by omega), show pm_up (pm_u x w f).2.2.2 2 i (some q) = pm_R (pm_up f 0 i q) from pm_R_up0 (by omega)]
  rcases pm_lt11 hi with rfl | rfl | rfl | rfl | rfl | rfl | rfl | rfl | rfl | rfl | rfl <;> exact (pm_ev_iter [9] 5 _ _ _ _).trans rfl
theorem rm_d0 {c : Nat → List pm_V → pm_S → Option pm_Rs} {sc : pm_Sc} (x : Nat → Nat → Int32) (w : Nat → Nat → Bool) (f : Nat → Nat → Nat) (n g : Nat) (i kk : Int32) (hx : x 1 1 = Int32.ofNat (n + 1)) (hn : n < 12) (hq : pm_cls 85 g = some 1) : pm_ev c sc 0 pm_c17 39 [(3, .inl (i)), (2, pm_r g), (0, pm_r 1), (1, .inl kk)] [] (pm_u x w f) = some (none, pm_u (pm_up x 1 1 (Int32.ofNat n)) w (pm_up f 0 n g)) := by
  have h1 : pm_ev c sc 0 pm_c17 39 [(3, .inl (i)), (2, pm_r g), (0, pm_r 1), (1, .inl kk)] [] (pm_u x w f) = pm_ev c sc 0 pm_c17 58 [(3, .inl (i)), (2, pm_r g), (0, pm_r 1), (1, .inl kk)] [pm_r g, .inl (x 1 1 - 1), pm_r 2] (pm_u (pm_up x 1 1 (x 1 1 - 1)) w f) := (pm_ev_iter [58] 60 _ _ _ _).trans rfl
  have h2 : x 1 1 - 1 = Int32.ofNat n := by rw [hx]; exact nI_pred n
  rw [h1, h2, pm_ev_step]
  refine (pm_asta_of (u := pm_u (pm_up x 1 1 (Int32.ofNat n)) w f) (len := 12) rfl hq (pm_ib_of hn (by decide))).trans ?_
  rw [show (Int32.ofNat n).toNatClampNeg = n from nI_clamp (by omega), show pm_up (pm_u (pm_up x 1 1 (Int32.ofNat n)) w f).2.2.2 2 n (some g) = pm_R (pm_up f 0 n g) from pm_R_up0 hn]
  exact (pm_ev_iter [] 3 _ _ _ _).trans rfl
theorem rm_b1 {c : Nat → List pm_V → pm_S → Option pm_Rs} {sc : pm_Sc} (x : Nat → Nat → Int32) (w : Nat → Nat → Bool) (f : Nat → Nat → Nat) (i g : Nat) (kk : Int32) (hi : i < 11) : pm_ev c sc 0 pm_c17 9 [(3, .inl (Int32.ofNat i)), (2, pm_r g), (0, pm_r 15), (1, .inl kk)] [] (pm_u x w f) = if x 15 1 - 1 ≤ Int32.ofNat i then pm_ev c sc 0 pm_c17 39 [(3, .inl (Int32.ofNat i)), (2, pm_r g), (0, pm_r 15), (1, .inl kk)] [] (pm_u x w f) else pm_ev c sc 0 pm_c17 32 [(3, .inl (Int32.ofNat i)), (2, pm_r g), (0, pm_r 15), (1, .inl kk)] [pm_r (f 1 (i + 1)), .inl (Int32.ofNat i), pm_r 16] (pm_u x w f) := by
  rcases pm_lt11 hi with rfl | rfl | rfl | rfl | rfl | rfl | rfl | rfl | rfl | rfl | rfl <;> exact (pm_ev_iter [39, 32] 60 _ _ _ _).trans rfl
theorem rm_c1 {c : Nat → List pm_V → pm_S → Option pm_Rs} {sc : pm_Sc} (x : Nat → Nat → Int32) (w : Nat → Nat → Bool) (f : Nat → Nat → Nat) (i g q : Nat) (kk : Int32) (hi : i < 11) (hq : pm_cls 85 q = some 1) : pm_ev c sc 0 pm_c17 32 [(3, .inl (Int32.ofNat i)), (2, pm_r g), (0, pm_r 15), (1, .inl kk)] [pm_r q, .inl (Int32.ofNat i), pm_r 16] (pm_u x w f) = pm_ev c sc 0 pm_c17 9 [(3, .inl (Int32.ofNat (i + 1))), (2, pm_r g), (0, pm_r 15), (1, .inl kk)] [] (pm_u x w (pm_up f 1 i q)) := by
  rw [pm_ev_step]
  refine (pm_asta_of (u := pm_u x w f) (len := 12) rfl hq (pm_ib_of (by omega) (by decide))).trans ?_
  rw [show (Int32.ofNat i).toNatClampNeg = i from nI_clamp (by omega), show pm_up (pm_u x w f).2.2.2 16 i (some q) = pm_R (pm_up f 1 i q) from pm_R_up1 (by omega)]
  rcases pm_lt11 hi with rfl | rfl | rfl | rfl | rfl | rfl | rfl | rfl | rfl | rfl | rfl <;> exact (pm_ev_iter [9] 5 _ _ _ _).trans rfl
theorem rm_d1 {c : Nat → List pm_V → pm_S → Option pm_Rs} {sc : pm_Sc} (x : Nat → Nat → Int32) (w : Nat → Nat → Bool) (f : Nat → Nat → Nat) (n g : Nat) (i kk : Int32) (hx : x 15 1 = Int32.ofNat (n + 1)) (hn : n < 12) (hq : pm_cls 85 g = some 1) : pm_ev c sc 0 pm_c17 39 [(3, .inl (i)), (2, pm_r g), (0, pm_r 15), (1, .inl kk)] [] (pm_u x w f) = some (none, pm_u (pm_up x 15 1 (Int32.ofNat n)) w (pm_up f 1 n g)) := by
  have h1 : pm_ev c sc 0 pm_c17 39 [(3, .inl (i)), (2, pm_r g), (0, pm_r 15), (1, .inl kk)] [] (pm_u x w f) = pm_ev c sc 0 pm_c17 58 [(3, .inl (i)), (2, pm_r g), (0, pm_r 15), (1, .inl kk)] [pm_r g, .inl (x 15 1 - 1), pm_r 16] (pm_u (pm_up x 15 1 (x 15 1 - 1)) w f) := (pm_ev_iter [58] 60 _ _ _ _).trans rfl
  have h2 : x 15 1 - 1 = Int32.ofNat n := by rw [hx]; exact nI_pred n
  rw [h1, h2, pm_ev_step]
  refine (pm_asta_of (u := pm_u (pm_up x 15 1 (Int32.ofNat n)) w f) (len := 12) rfl hq (pm_ib_of hn (by decide))).trans ?_
  rw [show (Int32.ofNat n).toNatClampNeg = n from nI_clamp (by omega), show pm_up (pm_u (pm_up x 15 1 (Int32.ofNat n)) w f).2.2.2 16 n (some g) = pm_R (pm_up f 1 n g) from pm_R_up1 hn]
  exact (pm_ev_iter [] 3 _ _ _ _).trans rfl
/-- frame k of line s goes behind the n others -/
def pm_rmv (f : Nat → Nat → Nat) (s k n : Nat) : Nat → Nat → Nat := fun a j => if a = s ∧ k ≤ j ∧ j < n then f s (j + 1) else if a = s ∧ j = n then f s k else f a j
def pm_shl (f : Nat → Nat → Nat) (s k i : Nat) : Nat → Nat → Nat := fun a j => if a = s ∧ k ≤ j ∧ j < i then f s (j + 1) else f a j
theorem pm_shl_0 (f : Nat → Nat → Nat) (s k : Nat) : pm_shl f s k k = f := by
  funext a j
  unfold pm_shl
  rw [if_neg (by omega)]
theorem pm_shl_s (f : Nat → Nat → Nat) (s k i : Nat) (h : k ≤ i) : pm_up (pm_shl f s k i) s i (pm_shl f s k i s (i + 1)) = pm_shl f s k (i + 1) := by
  funext a j
  rw [pm_up_eq]
  unfold pm_shl
  by_cases h1 : a = s ∧ j = i
  · rw [if_pos h1, if_neg (by omega), if_pos (by omega), h1.2]
  · rw [if_neg h1]
    by_cases h2 : a = s ∧ k ≤ j ∧ j < i
    · rw [if_pos h2, if_pos (by omega)]
    · rw [if_neg h2, if_neg (by omega)]
theorem pm_shl_e (f : Nat → Nat → Nat) (s k n : Nat) : pm_up (pm_shl f s k n) s n (f s k) = pm_rmv f s k n := by
  funext a j
  rw [pm_up_eq]
  unfold pm_shl pm_rmv
  by_cases h1 : a = s ∧ j = n
  · rw [if_pos h1, if_neg (by omega), if_pos h1]
  · rw [if_neg h1]
    by_cases h2 : a = s ∧ k ≤ j ∧ j < n
    · rw [if_pos h2, if_pos h2]
    · rw [if_neg h2, if_neg h2, if_neg h1]
theorem rm_l0 {c : Nat → List pm_V → pm_S → Option pm_Rs} {sc : pm_Sc} (x : Nat → Nat → Int32) (w : Nat → Nat → Bool) (f : Nat → Nat → Nat) (k n : Nat) (hx : x 1 1 = Int32.ofNat (n + 1)) (hn : n < 12) (hf : ∀ j, j < 12 → pm_cls 85 (f 0 j) = some 1) : ∀ (m i : Nat), i + m = n → k ≤ i → pm_ev c sc 0 pm_c17 9 [(3, .inl (Int32.ofNat i)), (2, pm_r (f 0 k)), (0, pm_r 1), (1, .inl (Int32.ofNat k))] [] (pm_u x w (pm_shl f 0 k i)) = some (none, pm_u (pm_up x 1 1 (Int32.ofNat n)) w (pm_rmv f 0 k n))
  | 0, i, hm, hk => by
    have hi : i = n := by omega
    subst hi
    have hle : x 1 1 - 1 ≤ Int32.ofNat i := by rw [hx, show Int32.ofNat (i + 1) - 1 = Int32.ofNat i from nI_pred i]; exact nI_le (Nat.le_refl i) (by omega)
    by_cases h11 : i < 11
    · rw [rm_b0 x w _ i _ _ h11, if_pos hle, rm_d0 x w _ i _ _ _ hx hn (hf k (by omega)), pm_shl_e]
    · have h1 : i = 11 := by omega
      subst h1
      have hb : pm_ev c sc 0 pm_c17 9 [(3, .inl (Int32.ofNat 11)), (2, pm_r (f 0 k)), (0, pm_r 1), (1, .inl (Int32.ofNat k))] [] (pm_u x w (pm_shl f 0 k 11)) = if x 1 1 - 1 ≤ Int32.ofNat 11 then pm_ev c sc 0 pm_c17 39 [(3, .inl (Int32.ofNat 11)), (2, pm_r (f 0 k)), (0, pm_r 1), (1, .inl (Int32.ofNat k))] [] (pm_u x w (pm_shl f 0 k 11)) else pm_ev c sc 0 pm_c17 19 [(3, .inl (Int32.ofNat 11)), (2, pm_r (f 0 k)), (0, pm_r 1), (1, .inl (Int32.ofNat k))] [] (pm_u x w (pm_shl f 0 k 11)) := (pm_ev_iter [39, 19] 20 _ _ _ _).trans rfl
      rw [hb, if_pos hle, rm_d0 x w _ 11 _ _ _ hx hn (hf k (by omega)), pm_shl_e]
  | m + 1, i, hm, hk => by
    have hlt : ¬ x 1 1 - 1 ≤ Int32.ofNat i := by rw [hx, show Int32.ofNat (n + 1) - 1 = Int32.ofNat n from nI_pred n]; exact nI_ge (by omega) (by omega)
    have hcl : pm_cls 85 (pm_shl f 0 k i 0 (i + 1)) = some 1 := by
      unfold pm_shl
      rw [if_neg (by omega)]
      exact hf _ (by omega)
    rw [rm_b0 x w _ i _ _ (by omega), if_neg hlt, rm_c0 x w _ i _ _ _ (by omega) hcl, pm_shl_s f 0 k i hk]
    exact rm_l0 x w f k n hx hn hf m (i + 1) (by omega) (by omega)
theorem zrm0 {sc : pm_Sc} (d : Nat) (x : Nat → Nat → Int32) (w : Nat → Nat → Bool) (f : Nat → Nat → Nat) (k n : Nat) (hx : x 1 1 = Int32.ofNat (n + 1)) (hk : k ≤ n) (hn : n < 12) (hf : ∀ j, j < 12 → pm_cls 85 (f 0 j) = some 1) : pm_call pm_Tf sc d 17 [pm_r 1, .inl (Int32.ofNat k)] (pm_u x w f) = some (none, pm_u (pm_up x 1 1 (Int32.ofNat n)) w (pm_rmv f 0 k n)) := by
  refine pm_call_0 (fun c => ?_) d
  have h1 : pm_ev c sc (pm_Tf 17).2 (pm_Tf 17).1 0 (pm_args 0 [pm_r 1, .inl (Int32.ofNat k)]) [] (pm_u x w f) = pm_ev c sc 0 pm_c17 9 [(3, .inl (Int32.ofNat k)), (2, pm_r (f 0 k)), (0, pm_r 1), (1, .inl (Int32.ofNat k))] [] (pm_u x w f) := by
    rcases pm_lt12 (show k < 12 by omega) with rfl | rfl | rfl | rfl | rfl | rfl | rfl | rfl | rfl | rfl | rfl | rfl <;> exact (pm_ev_iter [9] 20 _ _ _ _).trans rfl
  rw [h1]
  have h2 := rm_l0 (c := c) (sc := sc) x w f k n hx hn hf (n - k) k (by omega) (Nat.le_refl k)
  rw [pm_shl_0] at h2
  exact h2
theorem rm_l1 {c : Nat → List pm_V → pm_S → Option pm_Rs} {sc : pm_Sc} (x : Nat → Nat → Int32) (w : Nat → Nat → Bool) (f : Nat → Nat → Nat) (k n : Nat) (hx : x 15 1 = Int32.ofNat (n + 1)) (hn : n < 12) (hf : ∀ j, j < 12 → pm_cls 85 (f 1 j) = some 1) : ∀ (m i : Nat), i + m = n → k ≤ i → pm_ev c sc 0 pm_c17 9 [(3, .inl (Int32.ofNat i)), (2, pm_r (f 1 k)), (0, pm_r 15), (1, .inl (Int32.ofNat k))] [] (pm_u x w (pm_shl f 1 k i)) = some (none, pm_u (pm_up x 15 1 (Int32.ofNat n)) w (pm_rmv f 1 k n))
  | 0, i, hm, hk => by
    have hi : i = n := by omega
    subst hi
    have hle : x 15 1 - 1 ≤ Int32.ofNat i := by rw [hx, show Int32.ofNat (i + 1) - 1 = Int32.ofNat i from nI_pred i]; exact nI_le (Nat.le_refl i) (by omega)
    by_cases h11 : i < 11
    · rw [rm_b1 x w _ i _ _ h11, if_pos hle, rm_d1 x w _ i _ _ _ hx hn (hf k (by omega)), pm_shl_e]
    · have h1 : i = 11 := by omega
      subst h1
      have hb : pm_ev c sc 0 pm_c17 9 [(3, .inl (Int32.ofNat 11)), (2, pm_r (f 1 k)), (0, pm_r 15), (1, .inl (Int32.ofNat k))] [] (pm_u x w (pm_shl f 1 k 11)) = if x 15 1 - 1 ≤ Int32.ofNat 11 then pm_ev c sc 0 pm_c17 39 [(3, .inl (Int32.ofNat 11)), (2, pm_r (f 1 k)), (0, pm_r 15), (1, .inl (Int32.ofNat k))] [] (pm_u x w (pm_shl f 1 k 11)) else pm_ev c sc 0 pm_c17 19 [(3, .inl (Int32.ofNat 11)), (2, pm_r (f 1 k)), (0, pm_r 15), (1, .inl (Int32.ofNat k))] [] (pm_u x w (pm_shl f 1 k 11)) := (pm_ev_iter [39, 19] 20 _ _ _ _).trans rfl
      rw [hb, if_pos hle, rm_d1 x w _ 11 _ _ _ hx hn (hf k (by omega)), pm_shl_e]
  | m + 1, i, hm, hk => by
    have hlt : ¬ x 15 1 - 1 ≤ Int32.ofNat i := by rw [hx, show Int32.ofNat (n + 1) - 1 = Int32.ofNat n from nI_pred n]; exact nI_ge (by omega) (by omega)
    have hcl : pm_cls 85 (pm_shl f 1 k i 1 (i + 1)) = some 1 := by
      unfold pm_shl
      rw [if_neg (by omega)]
      exact hf _ (by omega)
    rw [rm_b1 x w _ i _ _ (by omega), if_neg hlt, rm_c1 x w _ i _ _ _ (by omega) hcl, pm_shl_s f 1 k i hk]
    exact rm_l1 x w f k n hx hn hf m (i + 1) (by omega) (by omega)
theorem zrm1 {sc : pm_Sc} (d : Nat) (x : Nat → Nat → Int32) (w : Nat → Nat → Bool) (f : Nat → Nat → Nat) (k n : Nat) (hx : x 15 1 = Int32.ofNat (n + 1)) (hk : k ≤ n) (hn : n < 12) (hf : ∀ j, j < 12 → pm_cls 85 (f 1 j) = some 1) : pm_call pm_Tf sc d 17 [pm_r 15, .inl (Int32.ofNat k)] (pm_u x w f) = some (none, pm_u (pm_up x 15 1 (Int32.ofNat n)) w (pm_rmv f 1 k n)) := by
  refine pm_call_0 (fun c => ?_) d
  have h1 : pm_ev c sc (pm_Tf 17).2 (pm_Tf 17).1 0 (pm_args 0 [pm_r 15, .inl (Int32.ofNat k)]) [] (pm_u x w f) = pm_ev c sc 0 pm_c17 9 [(3, .inl (Int32.ofNat k)), (2, pm_r (f 1 k)), (0, pm_r 15), (1, .inl (Int32.ofNat k))] [] (pm_u x w f) := by
    rcases pm_lt12 (show k < 12 by omega) with rfl | rfl | rfl | rfl | rfl | rfl | rfl | rfl | rfl | rfl | rfl | rfl <;> exact (pm_ev_iter [9] 20 _ _ _ _).trans rfl
  rw [h1]
  have h2 := rm_l1 (c := c) (sc := sc) x w f k n hx hn hf (n - k) k (by omega) (Nat.le_refl k)
  rw [pm_shl_0] at h2
  exact h2

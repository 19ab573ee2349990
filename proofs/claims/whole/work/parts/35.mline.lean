/-! The reference's calls that touch the lines. -/
theorem pm_ald_of {α : Type} {sc : pm_Sc} {st : List pm_V} {u : pm_S} {k len : Nat} {i : Int32} {kg : pm_V → List pm_V → α} {kn : α} (ha : pm_arr u.1 k = some (0, len)) (hi : pm_ib i len = true) : pm_ald sc 0 (.inl i :: pm_r k :: st) u kg kn = kg (.inl (u.2.1 k i.toNatClampNeg)) st := by
  unfold pm_ald
  simp only [ha]
  rw [hi]
  rfl
theorem pm_ast_of {α : Type} {st : List pm_V} {u : pm_S} {k len : Nat} {i v : Int32} {kg : List pm_V → pm_S → α} {kn : α} (ha : pm_arr u.1 k = some (0, len)) (hi : pm_ib i len = true) : pm_ast 0 (.inl v :: .inl i :: pm_r k :: st) u kg kn = kg st (u.1, pm_up u.2.1 k i.toNatClampNeg v, u.2.2.1, u.2.2.2) := by
  unfold pm_ast
  simp only [ha]
  rw [hi]
  rfl
/-- the rows of frames k + 1 to n of line s go one place down -/
def pm_tk (x : Nat → Nat → Int32) (lo hi : Nat) : Nat → Nat → Int32 := fun a j => if a = 75 ∧ lo ≤ j ∧ j < hi then x 75 (j + 6) else x a j
theorem pm_tk_0 (x : Nat → Nat → Int32) (lo : Nat) : pm_tk x lo lo = x := by
  funext a j
  unfold pm_tk
  rw [if_neg (by omega)]
theorem pm_tk_s (x : Nat → Nat → Int32) (lo i : Nat) (h : lo ≤ i) : pm_up (pm_tk x lo i) 75 i (pm_tk x lo i 75 (i + 6)) = pm_tk x lo (i + 1) := by
  funext a j
  rw [pm_up_eq]
  unfold pm_tk
  by_cases h1 : a = 75 ∧ j = i
  · rw [if_pos h1, if_neg (by omega), if_pos (by omega), h1.2]
  · rw [if_neg h1]
    by_cases h2 : a = 75 ∧ lo ≤ j ∧ j < i
    · rw [if_pos h2, if_pos (by omega)]
    · rw [if_neg h2, if_neg (by omega)]
/-- .. one place up -/
def pm_tw (x : Nat → Nat → Int32) (lo hi : Nat) : Nat → Nat → Int32 := fun a j => if a = 75 ∧ lo ≤ j ∧ j ≤ hi then x 75 (j - 6) else x a j
theorem pm_tw_0 (x : Nat → Nat → Int32) (hi : Nat) : pm_tw x (hi + 1) hi = x := by
  funext a j
  unfold pm_tw
  rw [if_neg (by omega)]
theorem pm_tw_s (x : Nat → Nat → Int32) (i hi : Nat) (h : i + 6 ≤ hi) : pm_up (pm_tw x (i + 7) hi) 75 (i + 6) (pm_tw x (i + 7) hi 75 i) = pm_tw x (i + 6) hi := by
  funext a j
  rw [pm_up_eq]
  unfold pm_tw
  by_cases h1 : a = 75 ∧ j = i + 6
  · rw [if_pos h1, if_neg (by omega), if_pos (by omega), h1.2, Nat.add_sub_cancel]
  · rw [if_neg h1]
    by_cases h2 : a = 75 ∧ i + 7 ≤ j ∧ j ≤ hi
    · rw [if_pos h2, if_pos (by omega)]
    · rw [if_neg h2, if_neg (by omega)]
theorem to_b0 {c : Nat → List pm_V → pm_S → Option pm_Rs} {sc : pm_Sc} (x : Nat → Nat → Int32) (w : Nat → Nat → Bool) (f : Nat → Nat → Nat) (i : Nat) (kk : Int32) (hi : i < 138) : pm_ev c sc 0 pm_c102 10 [(3, .inl (Int32.ofNat i)), (0, pm_r 67), (1, .inl 0), (2, .inl kk)] [] (pm_u x w f) = if (72 : Int32) * 0 + 6 * x 74 0 ≤ Int32.ofNat i + 6 then pm_ev c sc 0 pm_c102 52 [(3, .inl (Int32.ofNat i)), (0, pm_r 67), (1, .inl 0), (2, .inl kk)] [] (pm_u x w f) else pm_ev c sc 0 pm_c102 10 [(3, .inl (Int32.ofNat (i + 1))), (0, pm_r 67), (1, .inl 0), (2, .inl kk)] [] (pm_u (pm_up x 75 i (x 75 (i + 6))) w f) := by
  have h1 : pm_ev c sc 0 pm_c102 10 [(3, .inl (Int32.ofNat i)), (0, pm_r 67), (1, .inl 0), (2, .inl kk)] [] (pm_u x w f) = if (72 : Int32) * 0 + 6 * x 74 0 ≤ Int32.ofNat i + 6 then pm_ev c sc 0 pm_c102 52 [(3, .inl (Int32.ofNat i)), (0, pm_r 67), (1, .inl 0), (2, .inl kk)] [] (pm_u x w f) else pm_ev c sc 0 pm_c102 44 [(3, .inl (Int32.ofNat i)), (0, pm_r 67), (1, .inl 0), (2, .inl kk)] [.inl (Int32.ofNat i + 6), pm_r 75, .inl (Int32.ofNat i), pm_r 75] (pm_u x w f) := (pm_ev_iter [52, 44] 40 _ _ _ _).trans rfl
  rw [h1]
  congr 1
  rw [show Int32.ofNat i + 6 = Int32.ofNat (i + 6) from nI_add i 6, pm_ev_step]
  show pm_ald sc 0 [.inl (Int32.ofNat (i + 6)), pm_r 75, .inl (Int32.ofNat i), pm_r 75] (pm_u x w f) (fun v st => pm_ev c sc 0 pm_c102 45 [(3, .inl (Int32.ofNat i)), (0, pm_r 67), (1, .inl 0), (2, .inl kk)] (v :: st) (pm_u x w f)) none = _
  refine (pm_ald_of (k := 75) (i := Int32.ofNat (i + 6)) (u := pm_u x w f) (len := 144) rfl (pm_ib_of (by omega) (by decide))).trans ?_
  rw [show (Int32.ofNat (i + 6)).toNatClampNeg = i + 6 from nI_clamp (by omega)]
  show pm_ev c sc 0 pm_c102 45 [(3, .inl (Int32.ofNat i)), (0, pm_r 67), (1, .inl 0), (2, .inl kk)] [.inl (x 75 (i + 6)), .inl (Int32.ofNat i), pm_r 75] (pm_u x w f) = _
  rw [pm_ev_step]
  show pm_ast 0 [.inl (x 75 (i + 6)), .inl (Int32.ofNat i), pm_r 75] (pm_u x w f) (fun st u => pm_ev c sc 0 pm_c102 46 [(3, .inl (Int32.ofNat i)), (0, pm_r 67), (1, .inl 0), (2, .inl kk)] st u) none = _
  refine (pm_ast_of (k := 75) (i := Int32.ofNat i) (u := pm_u x w f) (len := 144) rfl (pm_ib_of (by omega) (by decide))).trans ?_
  rw [show (Int32.ofNat i).toNatClampNeg = i from nI_clamp (by omega)]
  rw [show Int32.ofNat (i + 1) = Int32.ofNat i + 1 from (nI_1 i).symm]
  exact (pm_ev_iter [10] 5 _ _ _ _).trans rfl
theorem to_l0 {c : Nat → List pm_V → pm_S → Option pm_Rs} {sc : pm_Sc} (x : Nat → Nat → Int32) (w : Nat → Nat → Bool) (f : Nat → Nat → Nat) (n lo : Nat) (kk : Int32) (hx : x 74 0 = Int32.ofNat (n + 1)) (hn : n < 12) : ∀ (m i : Nat), i + m = 0 + 6 * n → lo ≤ i → pm_ev c sc 0 pm_c102 10 [(3, .inl (Int32.ofNat i)), (0, pm_r 67), (1, .inl 0), (2, .inl kk)] [] (pm_u (pm_tk x lo i) w f) = some (none, pm_u (pm_up (pm_tk x lo (0 + 6 * n)) 74 0 (Int32.ofNat n)) w f)
  | 0, i, hm, hlo => by
    have hi : i = 0 + 6 * n := by omega
    have hx2 : ∀ i, pm_tk x lo i 74 0 = Int32.ofNat (n + 1) := fun i => by
      unfold pm_tk
      rw [if_neg (by omega)]
      exact hx
    have hc : (72 : Int32) * 0 + 6 * pm_tk x lo i 74 0 = Int32.ofNat (0 + 6 * (n + 1)) := by
      rw [hx2, show (6 : Int32) * Int32.ofNat (n + 1) = Int32.ofNat (6 * (n + 1)) from pk_mul 6 (n + 1)]
      exact nI_add 0 (6 * (n + 1))
    have h3 : pm_ev c sc 0 pm_c102 10 [(3, .inl (Int32.ofNat i)), (0, pm_r 67), (1, .inl 0), (2, .inl kk)] [] (pm_u (pm_tk x lo i) w f) = if (72 : Int32) * 0 + 6 * pm_tk x lo i 74 0 ≤ Int32.ofNat i + 6 then pm_ev c sc 0 pm_c102 52 [(3, .inl (Int32.ofNat i)), (0, pm_r 67), (1, .inl 0), (2, .inl kk)] [] (pm_u (pm_tk x lo i) w f) else pm_ev c sc 0 pm_c102 31 [(3, .inl (Int32.ofNat i)), (0, pm_r 67), (1, .inl 0), (2, .inl kk)] [] (pm_u (pm_tk x lo i) w f) := (pm_ev_iter [52, 31] 40 _ _ _ _).trans rfl
    rw [h3, if_pos (by rw [hc, show Int32.ofNat i + 6 = Int32.ofNat (i + 6) from nI_add i 6]; exact nI_le (by omega) (by omega))]
    have h4 : pm_ev c sc 0 pm_c102 52 [(3, .inl (Int32.ofNat i)), (0, pm_r 67), (1, .inl 0), (2, .inl kk)] [] (pm_u (pm_tk x lo i) w f) = some (none, pm_u (pm_up (pm_tk x lo i) 74 0 (pm_tk x lo i 74 0 - 1)) w f) := (pm_ev_iter [] 20 _ _ _ _).trans rfl
    rw [h4, hx2, show Int32.ofNat (n + 1) - 1 = Int32.ofNat n from nI_pred n, hi]
  | m + 1, i, hm, hlo => by
    have hx2 : ∀ i, pm_tk x lo i 74 0 = Int32.ofNat (n + 1) := fun i => by
      unfold pm_tk
      rw [if_neg (by omega)]
      exact hx
    have hc : (72 : Int32) * 0 + 6 * pm_tk x lo i 74 0 = Int32.ofNat (0 + 6 * (n + 1)) := by
      rw [hx2, show (6 : Int32) * Int32.ofNat (n + 1) = Int32.ofNat (6 * (n + 1)) from pk_mul 6 (n + 1)]
      exact nI_add 0 (6 * (n + 1))
    rw [to_b0 (pm_tk x lo i) w f i kk (by omega), if_neg (by rw [hc, show Int32.ofNat i + 6 = Int32.ofNat (i + 6) from nI_add i 6]; exact nI_ge (by omega) (by omega)), pm_tk_s x lo i hlo]
    exact to_l0 x w f n lo kk hx hn m (i + 1) (by omega) (by omega)
theorem zto0 {sc : pm_Sc} (d : Nat) (x : Nat → Nat → Int32) (w : Nat → Nat → Bool) (f : Nat → Nat → Nat) (k n : Nat) (hx : x 74 0 = Int32.ofNat (n + 1)) (hk : k ≤ n) (hn : n < 12) : pm_call pm_Tf sc d 102 [pm_r 67, .inl 0, .inl (Int32.ofNat k)] (pm_u x w f) = some (none, pm_u (pm_up (pm_tk x (0 + 6 * k) (0 + 6 * n)) 74 0 (Int32.ofNat n)) w f) := by
  refine pm_call_0 (fun c => ?_) d
  have h1 : pm_ev c sc (pm_Tf 102).2 (pm_Tf 102).1 0 (pm_args 0 [pm_r 67, .inl 0, .inl (Int32.ofNat k)]) [] (pm_u x w f) = pm_ev c sc 0 pm_c102 10 [(3, .inl ((72 : Int32) * 0 + 6 * Int32.ofNat k)), (0, pm_r 67), (1, .inl 0), (2, .inl (Int32.ofNat k))] [] (pm_u x w f) := (pm_ev_iter [10] 20 _ _ _ _).trans rfl
  have hc : (72 : Int32) * 0 + 6 * Int32.ofNat k = Int32.ofNat (0 + 6 * k) := by
    rw [show (6 : Int32) * Int32.ofNat k = Int32.ofNat (6 * k) from pk_mul 6 k]
    exact nI_add 0 (6 * k)
  rw [h1, hc]
  have h2 := to_l0 (c := c) (sc := sc) x w f n (0 + 6 * k) (Int32.ofNat k) hx hn (6 * n - 6 * k) (0 + 6 * k) (by omega) (Nat.le_refl _)
  rw [pm_tk_0] at h2
  exact h2
theorem nf0 (x : Nat → Nat → Int32) (w : Nat → Nat → Bool) (f : Nat → Nat → Nat) (n j : Nat) (hx : x 74 0 = Int32.ofNat (n + 1)) (hj : j ≤ n) (hn : n < 12) : q1010 (Int32.ofNat j) x w f = false := by
  unfold q1010
  rw [if_neg (show ¬ q91 0 x w f = true by intro h; cases h), if_neg (show ¬ Int32.ofNat j < 0 from nI_pos (by omega)), hx, if_pos (show Int32.ofNat j < Int32.ofNat (n + 1) from nI_lt (by omega) (by omega))]
theorem zmdr0 {sc : pm_Sc} (d : Nat) (x : Nat → Nat → Int32) (w : Nat → Nat → Bool) (f : Nat → Nat → Nat) (n j : Nat) (hx : x 74 0 = Int32.ofNat (n + 1)) (hj : j ≤ n) (hn : n < 12) : pm_call pm_Tf sc (d + 2) 104 [pm_r 67, .inl 0, .inl (Int32.ofNat j)] (pm_u x w f) = some (some (.inl (Int32.ofNat n)), pm_u (pm_up (pm_tk x (0 + 6 * j) (0 + 6 * n)) 74 0 (Int32.ofNat n)) w f) := by
  have g1 : pm_call pm_Tf sc (d + 2) 104 [pm_r 67, .inl 0, .inl (Int32.ofNat j)] (pm_u x w f) = pm_ev (pm_call pm_Tf sc (d + 1)) sc 1 pm_c104 3 [(0, pm_r 67), (1, .inl 0), (2, .inl (Int32.ofNat j))] [.inl (Int32.ofNat j), .inl 0, pm_r 67] (pm_u x w f) := (pm_ev_iter [3] 5 _ _ _ _).trans rfl
  have g2 : pm_ev (pm_call pm_Tf sc (d + 1)) sc 1 pm_c104 3 [(0, pm_r 67), (1, .inl 0), (2, .inl (Int32.ofNat j))] [.inl (Int32.ofNat j), .inl 0, pm_r 67] (pm_u x w f) = pm_call1 (fun v u => pm_ev (pm_call pm_Tf sc (d + 1)) sc 1 pm_c104 6 [(0, pm_r 67), (1, .inl 0), (2, .inl (Int32.ofNat j))] (v.toList ++ []) u) none (pm_call pm_Tf sc (d + 1) 101 [pm_r 67, .inl 0, .inl (Int32.ofNat j)] (pm_u x w f)) := (pm_ev_step _ _ _ _).trans rfl
  have g2' := z1010 (sc := sc) d (Int32.ofNat j) x w f
  rw [nf0 x w f n j hx hj hn] at g2'
  refine g1.trans (g2.trans ((pm_call1_of g2').trans ?_))
  have g3 : pm_ev (pm_call pm_Tf sc (d + 1)) sc 1 pm_c104 6 [(0, pm_r 67), (1, .inl 0), (2, .inl (Int32.ofNat j))] ((some (pm_b false)).toList ++ []) (pm_u x w f) = pm_ev (pm_call pm_Tf sc (d + 1)) sc 1 pm_c104 14 [(0, pm_r 67), (1, .inl 0), (2, .inl (Int32.ofNat j))] [.inl (Int32.ofNat j), .inl 0, pm_r 67] (pm_u x w f) := (pm_ev_iter [14] 5 _ _ _ _).trans rfl
  have g4 : pm_ev (pm_call pm_Tf sc (d + 1)) sc 1 pm_c104 14 [(0, pm_r 67), (1, .inl 0), (2, .inl (Int32.ofNat j))] [.inl (Int32.ofNat j), .inl 0, pm_r 67] (pm_u x w f) = pm_call1 (fun v u => pm_ev (pm_call pm_Tf sc (d + 1)) sc 1 pm_c104 17 [(0, pm_r 67), (1, .inl 0), (2, .inl (Int32.ofNat j))] (v.toList ++ []) u) none (pm_call pm_Tf sc (d + 1) 102 [pm_r 67, .inl 0, .inl (Int32.ofNat j)] (pm_u x w f)) := (pm_ev_step _ _ _ _).trans rfl
  refine g3.trans (g4.trans ((pm_call1_of (zto0 (d + 1) x w f j n hx hj hn)).trans ?_))
  exact (pm_ev_iter [] 10 _ _ _ _).trans rfl
def mk0 (j : Nat) (x : Nat → Nat → Int32) (w : Nat → Nat → Bool) : Bool × (Nat → Nat → Int32) × (Nat → Nat → Bool) := if w 72 0 = true then (if x 75 (0 + 6 * j) ≤ x 73 0 then (false, x, pm_up w 72 0 true) else (true, pm_up (pm_up (pm_up (pm_up (pm_up (pm_up x 73 0 (x 75 (0 + 6 * j))) 73 1 (x 75 (0 + 6 * j + 1))) 73 2 (x 75 (0 + 6 * j + 2))) 73 3 (x 75 (0 + 6 * j + 3))) 73 4 (x 75 (0 + 6 * j + 4))) 73 5 (x 75 (0 + 6 * j + 5)), pm_up w 72 0 true)) else (true, pm_up (pm_up (pm_up (pm_up (pm_up (pm_up x 73 0 (x 75 (0 + 6 * j))) 73 1 (x 75 (0 + 6 * j + 1))) 73 2 (x 75 (0 + 6 * j + 2))) 73 3 (x 75 (0 + 6 * j + 3))) 73 4 (x 75 (0 + 6 * j + 4))) 73 5 (x 75 (0 + 6 * j + 5)), pm_up w 72 0 true)
set_option maxRecDepth 20000 in
theorem zmde0 {sc : pm_Sc} (d : Nat) (x : Nat → Nat → Int32) (w : Nat → Nat → Bool) (f : Nat → Nat → Nat) (n j : Nat) (hx : x 74 0 = Int32.ofNat (n + 1)) (hj : j ≤ n) (hn : n < 12) : pm_call pm_Tf sc (d + 2) 103 [pm_r 67, .inl 0, .inl (Int32.ofNat j)] (pm_u x w f) = some (some (.inl (if (mk0 j x w).1 = true then 1 else 0)), pm_u (pm_up (pm_tk (mk0 j x w).2.1 (0 + 6 * j) (0 + 6 * n)) 74 0 (Int32.ofNat n)) (mk0 j x w).2.2 f) := by
  have g1 : pm_call pm_Tf sc (d + 2) 103 [pm_r 67, .inl 0, .inl (Int32.ofNat j)] (pm_u x w f) = pm_ev (pm_call pm_Tf sc (d + 1)) sc 1 pm_c103 3 [(0, pm_r 67), (1, .inl 0), (2, .inl (Int32.ofNat j))] [.inl (Int32.ofNat j), .inl 0, pm_r 67] (pm_u x w f) := (pm_ev_iter [3] 5 _ _ _ _).trans rfl
  have g2 : pm_ev (pm_call pm_Tf sc (d + 1)) sc 1 pm_c103 3 [(0, pm_r 67), (1, .inl 0), (2, .inl (Int32.ofNat j))] [.inl (Int32.ofNat j), .inl 0, pm_r 67] (pm_u x w f) = pm_call1 (fun v u => pm_ev (pm_call pm_Tf sc (d + 1)) sc 1 pm_c103 6 [(0, pm_r 67), (1, .inl 0), (2, .inl (Int32.ofNat j))] (v.toList ++ []) u) none (pm_call pm_Tf sc (d + 1) 101 [pm_r 67, .inl 0, .inl (Int32.ofNat j)] (pm_u x w f)) := (pm_ev_step _ _ _ _).trans rfl
  have g2' := z1010 (sc := sc) d (Int32.ofNat j) x w f
  rw [nf0 x w f n j hx hj hn] at g2'
  refine g1.trans (g2.trans ((pm_call1_of g2').trans ?_))
  have g3 : pm_ev (pm_call pm_Tf sc (d + 1)) sc 1 pm_c103 6 [(0, pm_r 67), (1, .inl 0), (2, .inl (Int32.ofNat j))] ((some (pm_b false)).toList ++ []) (pm_u x w f) = if w 72 0 = true then (if x 75 (0 + 6 * j) ≤ x 73 0 then pm_ev (pm_call pm_Tf sc (d + 1)) sc 1 pm_c103 107 [(5, .inl 0), (4, .inl 0), (3, .inl (Int32.ofNat (0 + 6 * j))), (0, pm_r 67), (1, .inl 0), (2, .inl (Int32.ofNat j))] [.inl (Int32.ofNat j), .inl 0, pm_r 67] (pm_u x (pm_up w 72 0 true) f) else pm_ev (pm_call pm_Tf sc (d + 1)) sc 1 pm_c103 107 [(5, .inl 6), (4, .inl 1), (3, .inl (Int32.ofNat (0 + 6 * j))), (0, pm_r 67), (1, .inl 0), (2, .inl (Int32.ofNat j))] [.inl (Int32.ofNat j), .inl 0, pm_r 67] (pm_u (pm_up (pm_up (pm_up (pm_up (pm_up (pm_up x 73 0 (x 75 (0 + 6 * j))) 73 1 (x 75 (0 + 6 * j + 1))) 73 2 (x 75 (0 + 6 * j + 2))) 73 3 (x 75 (0 + 6 * j + 3))) 73 4 (x 75 (0 + 6 * j + 4))) 73 5 (x 75 (0 + 6 * j + 5))) (pm_up w 72 0 true) f)) else pm_ev (pm_call pm_Tf sc (d + 1)) sc 1 pm_c103 107 [(5, .inl 6), (4, .inl 1), (3, .inl (Int32.ofNat (0 + 6 * j))), (0, pm_r 67), (1, .inl 0), (2, .inl (Int32.ofNat j))] [.inl (Int32.ofNat j), .inl 0, pm_r 67] (pm_u (pm_up (pm_up (pm_up (pm_up (pm_up (pm_up x 73 0 (x 75 (0 + 6 * j))) 73 1 (x 75 (0 + 6 * j + 1))) 73 2 (x 75 (0 + 6 * j + 2))) 73 3 (x 75 (0 + 6 * j + 3))) 73 4 (x 75 (0 + 6 * j + 4))) 73 5 (x 75 (0 + 6 * j + 5))) (pm_up w 72 0 true) f) := by
    rcases pm_lt12 (show j < 12 by omega) with rfl | rfl | rfl | rfl | rfl | rfl | rfl | rfl | rfl | rfl | rfl | rfl <;> exact (pm_ev_iter [107] 300 _ _ _ _).trans rfl
  have g4 : ∀ (lv : pm_Lv) (y : Nat → Nat → Int32) (z : Nat → Nat → Bool), pm_ev (pm_call pm_Tf sc (d + 1)) sc 1 pm_c103 107 lv [.inl (Int32.ofNat j), .inl 0, pm_r 67] (pm_u y z f) = pm_call1 (fun v u => pm_ev (pm_call pm_Tf sc (d + 1)) sc 1 pm_c103 110 lv (v.toList ++ []) u) none (pm_call pm_Tf sc (d + 1) 102 [pm_r 67, .inl 0, .inl (Int32.ofNat j)] (pm_u y z f)) := fun lv y z => (pm_ev_step _ _ _ _).trans rfl
  refine g3.trans ?_
  have hxn : (pm_up (pm_up (pm_up (pm_up (pm_up (pm_up x 73 0 (x 75 (0 + 6 * j))) 73 1 (x 75 (0 + 6 * j + 1))) 73 2 (x 75 (0 + 6 * j + 2))) 73 3 (x 75 (0 + 6 * j + 3))) 73 4 (x 75 (0 + 6 * j + 4))) 73 5 (x 75 (0 + 6 * j + 5))) 74 0 = Int32.ofNat (n + 1) := hx
  unfold mk0
  by_cases h1 : w 72 0 = true
  · rw [if_pos h1, if_pos h1]
    by_cases h2 : x 75 (0 + 6 * j) ≤ x 73 0
    · rw [if_pos h2, if_pos h2, g4]
      refine (pm_call1_of (zto0 (d + 1) x (pm_up w 72 0 true) f j n hx hj hn)).trans ?_
      exact (pm_ev_iter [] 10 _ _ _ _).trans rfl
    · rw [if_neg h2, if_neg h2, g4]
      refine (pm_call1_of (zto0 (d + 1) _ (pm_up w 72 0 true) f j n hxn hj hn)).trans ?_
      exact (pm_ev_iter [] 10 _ _ _ _).trans rfl
  · rw [if_neg h1, if_neg h1, g4]
    refine (pm_call1_of (zto0 (d + 1) _ (pm_up w 72 0 true) f j n hxn hj hn)).trans ?_
    exact (pm_ev_iter [] 10 _ _ _ _).trans rfl
theorem zmfr0 {sc : pm_Sc} (d : Nat) (x : Nat → Nat → Int32) (w : Nat → Nat → Bool) (f : Nat → Nat → Nat) (n j : Nat) (hx : x 74 0 = Int32.ofNat (n + 1)) (hj : j ≤ n) (hn : n < 12) (m : Nat) (hm : m < 6) : pm_call pm_Tf sc (d + 2) 106 [pm_r 67, .inl 0, .inl (Int32.ofNat j), .inl (Int32.ofNat m)] (pm_u x w f) = some (some (.inl (x 75 (0 + 6 * j + m))), pm_u x w f) := by
  have g1 : pm_call pm_Tf sc (d + 2) 106 [pm_r 67, .inl 0, .inl (Int32.ofNat j), .inl (Int32.ofNat m)] (pm_u x w f) = pm_ev (pm_call pm_Tf sc (d + 1)) sc 1 pm_c106 3 [(0, pm_r 67), (1, .inl 0), (2, .inl (Int32.ofNat j)), (3, .inl (Int32.ofNat m))] [.inl (Int32.ofNat j), .inl 0, pm_r 67] (pm_u x w f) := (pm_ev_iter [3] 5 _ _ _ _).trans rfl
  have g2 : pm_ev (pm_call pm_Tf sc (d + 1)) sc 1 pm_c106 3 [(0, pm_r 67), (1, .inl 0), (2, .inl (Int32.ofNat j)), (3, .inl (Int32.ofNat m))] [.inl (Int32.ofNat j), .inl 0, pm_r 67] (pm_u x w f) = pm_call1 (fun v u => pm_ev (pm_call pm_Tf sc (d + 1)) sc 1 pm_c106 6 [(0, pm_r 67), (1, .inl 0), (2, .inl (Int32.ofNat j)), (3, .inl (Int32.ofNat m))] (v.toList ++ []) u) none (pm_call pm_Tf sc (d + 1) 101 [pm_r 67, .inl 0, .inl (Int32.ofNat j)] (pm_u x w f)) := (pm_ev_step _ _ _ _).trans rfl
  have g2' := z1010 (sc := sc) d (Int32.ofNat j) x w f
  rw [nf0 x w f n j hx hj hn] at g2'
  refine g1.trans (g2.trans ((pm_call1_of g2').trans ?_))
  rcases (show m = 0 ∨ m = 1 ∨ m = 2 ∨ m = 3 ∨ m = 4 ∨ m = 5 by omega) with rfl | rfl | rfl | rfl | rfl | rfl <;> (rcases pm_lt12 (show j < 12 by omega) with rfl | rfl | rfl | rfl | rfl | rfl | rfl | rfl | rfl | rfl | rfl | rfl) <;> exact (pm_ev_iter [] 40 _ _ _ _).trans rfl
theorem zmfb0 {sc : pm_Sc} (d : Nat) (x : Nat → Nat → Int32) (w : Nat → Nat → Bool) (f : Nat → Nat → Nat) (n j : Nat) (hx : x 74 0 = Int32.ofNat (n + 1)) (hj : j ≤ n) (hn : n < 12) (e0 : Int32) (he : e0 < 0 ∨ ¬ e0 ≤ 5) : pm_call pm_Tf sc (d + 2) 106 [pm_r 67, .inl 0, .inl (Int32.ofNat j), .inl e0] (pm_u x w f) = some (some (.inl (-1)), pm_u x w f) := by
  have g1 : pm_call pm_Tf sc (d + 2) 106 [pm_r 67, .inl 0, .inl (Int32.ofNat j), .inl e0] (pm_u x w f) = pm_ev (pm_call pm_Tf sc (d + 1)) sc 1 pm_c106 3 [(0, pm_r 67), (1, .inl 0), (2, .inl (Int32.ofNat j)), (3, .inl e0)] [.inl (Int32.ofNat j), .inl 0, pm_r 67] (pm_u x w f) := (pm_ev_iter [3] 5 _ _ _ _).trans rfl
  have g2 : pm_ev (pm_call pm_Tf sc (d + 1)) sc 1 pm_c106 3 [(0, pm_r 67), (1, .inl 0), (2, .inl (Int32.ofNat j)), (3, .inl e0)] [.inl (Int32.ofNat j), .inl 0, pm_r 67] (pm_u x w f) = pm_call1 (fun v u => pm_ev (pm_call pm_Tf sc (d + 1)) sc 1 pm_c106 6 [(0, pm_r 67), (1, .inl 0), (2, .inl (Int32.ofNat j)), (3, .inl e0)] (v.toList ++ []) u) none (pm_call pm_Tf sc (d + 1) 101 [pm_r 67, .inl 0, .inl (Int32.ofNat j)] (pm_u x w f)) := (pm_ev_step _ _ _ _).trans rfl
  have g2' := z1010 (sc := sc) d (Int32.ofNat j) x w f
  rw [nf0 x w f n j hx hj hn] at g2'
  refine g1.trans (g2.trans ((pm_call1_of g2').trans ?_))
  have g3 : pm_ev (pm_call pm_Tf sc (d + 1)) sc 1 pm_c106 6 [(0, pm_r 67), (1, .inl 0), (2, .inl (Int32.ofNat j)), (3, .inl e0)] ((some (pm_b false)).toList ++ []) (pm_u x w f) = if e0 < 0 then some (some (.inl (-1)), pm_u x w f) else if e0 ≤ 5 then pm_ev (pm_call pm_Tf sc (d + 1)) sc 1 pm_c106 22 [(0, pm_r 67), (1, .inl 0), (2, .inl (Int32.ofNat j)), (3, .inl e0)] [] (pm_u x w f) else some (some (.inl (-1)), pm_u x w f) := (pm_ev_iter [22] 40 _ _ _ _).trans rfl
  refine g3.trans ?_
  by_cases h : e0 < 0
  · rw [if_pos h]
  · rw [if_neg h, if_neg (he.resolve_left h)]
theorem tw_b0 {c : Nat → List pm_V → pm_S → Option pm_Rs} {sc : pm_Sc} (x : Nat → Nat → Int32) (w : Nat → Nat → Bool) (f : Nat → Nat → Nat) (i k : Nat) (hi : i < 138) : pm_ev c sc 1 pm_c105 39 [(3, .inl (Int32.ofNat (i + 6))), (0, pm_r 67), (1, .inl 0), (2, .inl (Int32.ofNat k))] [] (pm_u x w f) = if Int32.ofNat (i + 6) ≤ (72 : Int32) * 0 + 6 * Int32.ofNat k + 5 then pm_ev c sc 1 pm_c105 75 [(3, .inl (Int32.ofNat (i + 6))), (0, pm_r 67), (1, .inl 0), (2, .inl (Int32.ofNat k))] [] (pm_u x w f) else pm_ev c sc 1 pm_c105 39 [(3, .inl (Int32.ofNat (i + 5))), (0, pm_r 67), (1, .inl 0), (2, .inl (Int32.ofNat k))] [] (pm_u (pm_up x 75 (i + 6) (x 75 i)) w f) := by
  have h1 : pm_ev c sc 1 pm_c105 39 [(3, .inl (Int32.ofNat (i + 6))), (0, pm_r 67), (1, .inl 0), (2, .inl (Int32.ofNat k))] [] (pm_u x w f) = if Int32.ofNat (i + 6) ≤ (72 : Int32) * 0 + 6 * Int32.ofNat k + 5 then pm_ev c sc 1 pm_c105 75 [(3, .inl (Int32.ofNat (i + 6))), (0, pm_r 67), (1, .inl 0), (2, .inl (Int32.ofNat k))] [] (pm_u x w f) else pm_ev c sc 1 pm_c105 67 [(3, .inl (Int32.ofNat (i + 6))), (0, pm_r 67), (1, .inl 0), (2, .inl (Int32.ofNat k))] [.inl (Int32.ofNat (i + 6) - 6), pm_r 75, .inl (Int32.ofNat (i + 6)), pm_r 75] (pm_u x w f) := (pm_ev_iter [75, 67] 40 _ _ _ _).trans rfl
  rw [h1]
  congr 1
  rw [show Int32.ofNat (i + 6) - 6 = Int32.ofNat i from (pk_sub (a := i + 6) (b := 6) (by omega)).trans (congrArg nI (by omega)), pm_ev_step]
  show pm_ald sc 0 [.inl (Int32.ofNat i), pm_r 75, .inl (Int32.ofNat (i + 6)), pm_r 75] (pm_u x w f) (fun v st => pm_ev c sc 1 pm_c105 68 [(3, .inl (Int32.ofNat (i + 6))), (0, pm_r 67), (1, .inl 0), (2, .inl (Int32.ofNat k))] (v :: st) (pm_u x w f)) none = _
  refine (pm_ald_of (k := 75) (i := Int32.ofNat i) (u := pm_u x w f) (len := 144) rfl (pm_ib_of (by omega) (by decide))).trans ?_
  rw [show (Int32.ofNat i).toNatClampNeg = i from nI_clamp (by omega)]
  show pm_ev c sc 1 pm_c105 68 [(3, .inl (Int32.ofNat (i + 6))), (0, pm_r 67), (1, .inl 0), (2, .inl (Int32.ofNat k))] [.inl (x 75 i), .inl (Int32.ofNat (i + 6)), pm_r 75] (pm_u x w f) = _
  rw [pm_ev_step]
  show pm_ast 0 [.inl (x 75 i), .inl (Int32.ofNat (i + 6)), pm_r 75] (pm_u x w f) (fun st u => pm_ev c sc 1 pm_c105 69 [(3, .inl (Int32.ofNat (i + 6))), (0, pm_r 67), (1, .inl 0), (2, .inl (Int32.ofNat k))] st u) none = _
  refine (pm_ast_of (k := 75) (i := Int32.ofNat (i + 6)) (u := pm_u x w f) (len := 144) rfl (pm_ib_of (by omega) (by decide))).trans ?_
  rw [show (Int32.ofNat (i + 6)).toNatClampNeg = i + 6 from nI_clamp (by omega)]
  rw [show Int32.ofNat (i + 5) = Int32.ofNat (i + 6) + (-1) from (pk_m1 (i + 5)).symm]
  exact (pm_ev_iter [39] 5 _ _ _ _).trans rfl
theorem to_b1 {c : Nat → List pm_V → pm_S → Option pm_Rs} {sc : pm_Sc} (x : Nat → Nat → Int32) (w : Nat → Nat → Bool) (f : Nat → Nat → Nat) (i : Nat) (kk : Int32) (hi : i < 138) : pm_ev c sc 0 pm_c102 10 [(3, .inl (Int32.ofNat i)), (0, pm_r 67), (1, .inl 1), (2, .inl kk)] [] (pm_u x w f) = if (72 : Int32) * 1 + 6 * x 74 1 ≤ Int32.ofNat i + 6 then pm_ev c sc 0 pm_c102 52 [(3, .inl (Int32.ofNat i)), (0, pm_r 67), (1, .inl 1), (2, .inl kk)] [] (pm_u x w f) else pm_ev c sc 0 pm_c102 10 [(3, .inl (Int32.ofNat (i + 1))), (0, pm_r 67), (1, .inl 1), (2, .inl kk)] [] (pm_u (pm_up x 75 i (x 75 (i + 6))) w f) := by
  have h1 : pm_ev c sc 0 pm_c102 10 [(3, .inl (Int32.ofNat i)), (0, pm_r 67), (1, .inl 1), (2, .inl kk)] [] (pm_u x w f) = if (72 : Int32) * 1 + 6 * x 74 1 ≤ Int32.ofNat i + 6 then pm_ev c sc 0 pm_c102 52 [(3, .inl (Int32.ofNat i)), (0, pm_r 67), (1, .inl 1), (2, .inl kk)] [] (pm_u x w f) else pm_ev c sc 0 pm_c102 44 [(3, .inl (Int32.ofNat i)), (0, pm_r 67), (1, .inl 1), (2, .inl kk)] [.inl (Int32.ofNat i + 6), pm_r 75, .inl (Int32.ofNat i), pm_r 75] (pm_u x w f) := (pm_ev_iter [52, 44] 40 _ _ _ _).trans rfl
  rw [h1]
  congr 1
  rw [show Int32.ofNat i + 6 = Int32.ofNat (i + 6) from nI_add i 6, pm_ev_step]
  show pm_ald sc 0 [.inl (Int32.ofNat (i + 6)), pm_r 75, .inl (Int32.ofNat i), pm_r 75] (pm_u x w f) (fun v st => pm_ev c sc 0 pm_c102 45 [(3, .inl (Int32.ofNat i)), (0, pm_r 67), (1, .inl 1), (2, .inl kk)] (v :: st) (pm_u x w f)) none = _
  refine (pm_ald_of (k := 75) (i := Int32.ofNat (i + 6)) (u := pm_u x w f) (len := 144) rfl (pm_ib_of (by omega) (by decide))).trans ?_
  rw [show (Int32.ofNat (i + 6)).toNatClampNeg = i + 6 from nI_clamp (by omega)]
  show pm_ev c sc 0 pm_c102 45 [(3, .inl (Int32.ofNat i)), (0, pm_r 67), (1, .inl 1), (2, .inl kk)] [.inl (x 75 (i + 6)), .inl (Int32.ofNat i), pm_r 75] (pm_u x w f) = _
  rw [pm_ev_step]
  show pm_ast 0 [.inl (x 75 (i + 6)), .inl (Int32.ofNat i), pm_r 75] (pm_u x w f) (fun st u => pm_ev c sc 0 pm_c102 46 [(3, .inl (Int32.ofNat i)), (0, pm_r 67), (1, .inl 1), (2, .inl kk)] st u) none = _
  refine (pm_ast_of (k := 75) (i := Int32.ofNat i) (u := pm_u x w f) (len := 144) rfl (pm_ib_of (by omega) (by decide))).trans ?_
  rw [show (Int32.ofNat i).toNatClampNeg = i from nI_clamp (by omega)]
  rw [show Int32.ofNat (i + 1) = Int32.ofNat i + 1 from (nI_1 i).symm]
  exact (pm_ev_iter [10] 5 _ _ _ _).trans rfl
theorem to_l1 {c : Nat → List pm_V → pm_S → Option pm_Rs} {sc : pm_Sc} (x : Nat → Nat → Int32) (w : Nat → Nat → Bool) (f : Nat → Nat → Nat) (n lo : Nat) (kk : Int32) (hx : x 74 1 = Int32.ofNat (n + 1)) (hn : n < 12) : ∀ (m i : Nat), i + m = 72 + 6 * n → lo ≤ i → pm_ev c sc 0 pm_c102 10 [(3, .inl (Int32.ofNat i)), (0, pm_r 67), (1, .inl 1), (2, .inl kk)] [] (pm_u (pm_tk x lo i) w f) = some (none, pm_u (pm_up (pm_tk x lo (72 + 6 * n)) 74 1 (Int32.ofNat n)) w f)
  | 0, i, hm, hlo => by
    have hi : i = 72 + 6 * n := by omega
    have hx2 : ∀ i, pm_tk x lo i 74 1 = Int32.ofNat (n + 1) := fun i => by
      unfold pm_tk
      rw [if_neg (by omega)]
      exact hx
    have hc : (72 : Int32) * 1 + 6 * pm_tk x lo i 74 1 = Int32.ofNat (72 + 6 * (n + 1)) := by
      rw [hx2, show (6 : Int32) * Int32.ofNat (n + 1) = Int32.ofNat (6 * (n + 1)) from pk_mul 6 (n + 1)]
      exact nI_add 72 (6 * (n + 1))
    have h3 : pm_ev c sc 0 pm_c102 10 [(3, .inl (Int32.ofNat i)), (0, pm_r 67), (1, .inl 1), (2, .inl kk)] [] (pm_u (pm_tk x lo i) w f) = if (72 : Int32) * 1 + 6 * pm_tk x lo i 74 1 ≤ Int32.ofNat i + 6 then pm_ev c sc 0 pm_c102 52 [(3, .inl (Int32.ofNat i)), (0, pm_r 67), (1, .inl 1), (2, .inl kk)] [] (pm_u (pm_tk x lo i) w f) else pm_ev c sc 0 pm_c102 31 [(3, .inl (Int32.ofNat i)), (0, pm_r 67), (1, .inl 1), (2, .inl kk)] [] (pm_u (pm_tk x lo i) w f) := (pm_ev_iter [52, 31] 40 _ _ _ _).trans rfl
    rw [h3, if_pos (by rw [hc, show Int32.ofNat i + 6 = Int32.ofNat (i + 6) from nI_add i 6]; exact nI_le (by omega) (by omega))]
    have h4 : pm_ev c sc 0 pm_c102 52 [(3, .inl (Int32.ofNat i)), (0, pm_r 67), (1, .inl 1), (2, .inl kk)] [] (pm_u (pm_tk x lo i) w f) = some (none, pm_u (pm_up (pm_tk x lo i) 74 1 (pm_tk x lo i 74 1 - 1)) w f) := (pm_ev_iter [] 20 _ _ _ _).trans rfl
    rw [h4, hx2, show Int32.ofNat (n + 1) - 1 = Int32.ofNat n from nI_pred n, hi]
  | m + 1, i, hm, hlo => by
    have hx2 : ∀ i, pm_tk x lo i 74 1 = Int32.ofNat (n + 1) := fun i => by
      unfold pm_tk
      rw [if_neg (by omega)]
      exact hx
    have hc : (72 : Int32) * 1 + 6 * pm_tk x lo i 74 1 = Int32.ofNat (72 + 6 * (n + 1)) := by
      rw [hx2, show (6 : Int32) * Int32.ofNat (n + 1) = Int32.ofNat (6 * (n + 1)) from pk_mul 6 (n + 1)]
      exact nI_add 72 (6 * (n + 1))
    rw [to_b1 (pm_tk x lo i) w f i kk (by omega), if_neg (by rw [hc, show Int32.ofNat i + 6 = Int32.ofNat (i + 6) from nI_add i 6]; exact nI_ge (by omega) (by omega)), pm_tk_s x lo i hlo]
    exact to_l1 x w f n lo kk hx hn m (i + 1) (by omega) (by omega)
theorem zto1 {sc : pm_Sc} (d : Nat) (x : Nat → Nat → Int32) (w : Nat → Nat → Bool) (f : Nat → Nat → Nat) (k n : Nat) (hx : x 74 1 = Int32.ofNat (n + 1)) (hk : k ≤ n) (hn : n < 12) : pm_call pm_Tf sc d 102 [pm_r 67, .inl 1, .inl (Int32.ofNat k)] (pm_u x w f) = some (none, pm_u (pm_up (pm_tk x (72 + 6 * k) (72 + 6 * n)) 74 1 (Int32.ofNat n)) w f) := by
  refine pm_call_0 (fun c => ?_) d
  have h1 : pm_ev c sc (pm_Tf 102).2 (pm_Tf 102).1 0 (pm_args 0 [pm_r 67, .inl 1, .inl (Int32.ofNat k)]) [] (pm_u x w f) = pm_ev c sc 0 pm_c102 10 [(3, .inl ((72 : Int32) * 1 + 6 * Int32.ofNat k)), (0, pm_r 67), (1, .inl 1), (2, .inl (Int32.ofNat k))] [] (pm_u x w f) := (pm_ev_iter [10] 20 _ _ _ _).trans rfl
  have hc : (72 : Int32) * 1 + 6 * Int32.ofNat k = Int32.ofNat (72 + 6 * k) := by
    rw [show (6 : Int32) * Int32.ofNat k = Int32.ofNat (6 * k) from pk_mul 6 k]
    exact nI_add 72 (6 * k)
  rw [h1, hc]
  have h2 := to_l1 (c := c) (sc := sc) x w f n (72 + 6 * k) (Int32.ofNat k) hx hn (6 * n - 6 * k) (72 + 6 * k) (by omega) (Nat.le_refl _)
  rw [pm_tk_0] at h2
  exact h2
theorem nf1 (x : Nat → Nat → Int32) (w : Nat → Nat → Bool) (f : Nat → Nat → Nat) (n j : Nat) (hx : x 74 1 = Int32.ofNat (n + 1)) (hj : j ≤ n) (hn : n < 12) : q1011 (Int32.ofNat j) x w f = false := by
  unfold q1011
  rw [if_neg (show ¬ q91 1 x w f = true by intro h; cases h), if_neg (show ¬ Int32.ofNat j < 0 from nI_pos (by omega)), hx, if_pos (show Int32.ofNat j < Int32.ofNat (n + 1) from nI_lt (by omega) (by omega))]
theorem zmdr1 {sc : pm_Sc} (d : Nat) (x : Nat → Nat → Int32) (w : Nat → Nat → Bool) (f : Nat → Nat → Nat) (n j : Nat) (hx : x 74 1 = Int32.ofNat (n + 1)) (hj : j ≤ n) (hn : n < 12) : pm_call pm_Tf sc (d + 2) 104 [pm_r 67, .inl 1, .inl (Int32.ofNat j)] (pm_u x w f) = some (some (.inl (Int32.ofNat n)), pm_u (pm_up (pm_tk x (72 + 6 * j) (72 + 6 * n)) 74 1 (Int32.ofNat n)) w f) := by
  have g1 : pm_call pm_Tf sc (d + 2) 104 [pm_r 67, .inl 1, .inl (Int32.ofNat j)] (pm_u x w f) = pm_ev (pm_call pm_Tf sc (d + 1)) sc 1 pm_c104 3 [(0, pm_r 67), (1, .inl 1), (2, .inl (Int32.ofNat j))] [.inl (Int32.ofNat j), .inl 1, pm_r 67] (pm_u x w f) := (pm_ev_iter [3] 5 _ _ _ _).trans rfl
  have g2 : pm_ev (pm_call pm_Tf sc (d + 1)) sc 1 pm_c104 3 [(0, pm_r 67), (1, .inl 1), (2, .inl (Int32.ofNat j))] [.inl (Int32.ofNat j), .inl 1, pm_r 67] (pm_u x w f) = pm_call1 (fun v u => pm_ev (pm_call pm_Tf sc (d + 1)) sc 1 pm_c104 6 [(0, pm_r 67), (1, .inl 1), (2, .inl (Int32.ofNat j))] (v.toList ++ []) u) none (pm_call pm_Tf sc (d + 1) 101 [pm_r 67, .inl 1, .inl (Int32.ofNat j)] (pm_u x w f)) := (pm_ev_step _ _ _ _).trans rfl
  have g2' := z1011 (sc := sc) d (Int32.ofNat j) x w f
  rw [nf1 x w f n j hx hj hn] at g2'
  refine g1.trans (g2.trans ((pm_call1_of g2').trans ?_))
  have g3 : pm_ev (pm_call pm_Tf sc (d + 1)) sc 1 pm_c104 6 [(0, pm_r 67), (1, .inl 1), (2, .inl (Int32.ofNat j))] ((some (pm_b false)).toList ++ []) (pm_u x w f) = pm_ev (pm_call pm_Tf sc (d + 1)) sc 1 pm_c104 14 [(0, pm_r 67), (1, .inl 1), (2, .inl (Int32.ofNat j))] [.inl (Int32.ofNat j), .inl 1, pm_r 67] (pm_u x w f) := (pm_ev_iter [14] 5 _ _ _ _).trans rfl
  have g4 : pm_ev (pm_call pm_Tf sc (d + 1)) sc 1 pm_c104 14 [(0, pm_r 67), (1, .inl 1), (2, .inl (Int32.ofNat j))] [.inl (Int32.ofNat j), .inl 1, pm_r 67] (pm_u x w f) = pm_call1 (fun v u => pm_ev (pm_call pm_Tf sc (d + 1)) sc 1 pm_c104 17 [(0, pm_r 67), (1, .inl 1), (2, .inl (Int32.ofNat j))] (v.toList ++ []) u) none (pm_call pm_Tf sc (d + 1) 102 [pm_r 67, .inl 1, .inl (Int32.ofNat j)] (pm_u x w f)) := (pm_ev_step _ _ _ _).trans rfl
  refine g3.trans (g4.trans ((pm_call1_of (zto1 (d + 1) x w f j n hx hj hn)).trans ?_))
  exact (pm_ev_iter [] 10 _ _ _ _).trans rfl
def mk1 (j : Nat) (x : Nat → Nat → Int32) (w : Nat → Nat → Bool) : Bool × (Nat → Nat → Int32) × (Nat → Nat → Bool) := if w 72 1 = true then (if x 75 (72 + 6 * j) ≤ x 73 6 then (false, x, pm_up w 72 1 true) else (true, pm_up (pm_up (pm_up (pm_up (pm_up (pm_up x 73 6 (x 75 (72 + 6 * j))) 73 7 (x 75 (72 + 6 * j + 1))) 73 8 (x 75 (72 + 6 * j + 2))) 73 9 (x 75 (72 + 6 * j + 3))) 73 10 (x 75 (72 + 6 * j + 4))) 73 11 (x 75 (72 + 6 * j + 5)), pm_up w 72 1 true)) else (true, pm_up (pm_up (pm_up (pm_up (pm_up (pm_up x 73 6 (x 75 (72 + 6 * j))) 73 7 (x 75 (72 + 6 * j + 1))) 73 8 (x 75 (72 + 6 * j + 2))) 73 9 (x 75 (72 + 6 * j + 3))) 73 10 (x 75 (72 + 6 * j + 4))) 73 11 (x 75 (72 + 6 * j + 5)), pm_up w 72 1 true)
set_option maxRecDepth 20000 in
theorem zmde1 {sc : pm_Sc} (d : Nat) (x : Nat → Nat → Int32) (w : Nat → Nat → Bool) (f : Nat → Nat → Nat) (n j : Nat) (hx : x 74 1 = Int32.ofNat (n + 1)) (hj : j ≤ n) (hn : n < 12) : pm_call pm_Tf sc (d + 2) 103 [pm_r 67, .inl 1, .inl (Int32.ofNat j)] (pm_u x w f) = some (some (.inl (if (mk1 j x w).1 = true then 1 else 0)), pm_u (pm_up (pm_tk (mk1 j x w).2.1 (72 + 6 * j) (72 + 6 * n)) 74 1 (Int32.ofNat n)) (mk1 j x w).2.2 f) := by
  have g1 : pm_call pm_Tf sc (d + 2) 103 [pm_r 67, .inl 1, .inl (Int32.ofNat j)] (pm_u x w f) = pm_ev (pm_call pm_Tf sc (d + 1)) sc 1 pm_c103 3 [(0, pm_r 67), (1, .inl 1), (2, .inl (Int32.ofNat j))] [.inl (Int32.ofNat j), .inl 1, pm_r 67] (pm_u x w f) := (pm_ev_iter [3] 5 _ _ _ _).trans rfl
  have g2 : pm_ev (pm_call pm_Tf sc (d + 1)) sc 1 pm_c103 3 [(0, pm_r 67), (1, .inl 1), (2, .inl (Int32.ofNat j))] [.inl (Int32.ofNat j), .inl 1, pm_r 67] (pm_u x w f) = pm_call1 (fun v u => pm_ev (pm_call pm_Tf sc (d + 1)) sc 1 pm_c103 6 [(0, pm_r 67), (1, .inl 1), (2, .inl (Int32.ofNat j))] (v.toList ++ []) u) none (pm_call pm_Tf sc (d + 1) 101 [pm_r 67, .inl 1, .inl (Int32.ofNat j)] (pm_u x w f)) := (pm_ev_step _ _ _ _).trans rfl
  have g2' := z1011 (sc := sc) d (Int32.ofNat j) x w f
  rw [nf1 x w f n j hx hj hn] at g2'
  refine g1.trans (g2.trans ((pm_call1_of g2').trans ?_))
  have g3 : pm_ev (pm_call pm_Tf sc (d + 1)) sc 1 pm_c103 6 [(0, pm_r 67), (1, .inl 1), (2, .inl (Int32.ofNat j))] ((some (pm_b false)).toList ++ []) (pm_u x w f) = if w 72 1 = true then (if x 75 (72 + 6 * j) ≤ x 73 6 then pm_ev (pm_call pm_Tf sc (d + 1)) sc 1 pm_c103 107 [(5, .inl 0), (4, .inl 0), (3, .inl (Int32.ofNat (72 + 6 * j))), (0, pm_r 67), (1, .inl 1), (2, .inl (Int32.ofNat j))] [.inl (Int32.ofNat j), .inl 1, pm_r 67] (pm_u x (pm_up w 72 1 true) f) else pm_ev (pm_call pm_Tf sc (d + 1)) sc 1 pm_c103 107 [(5, .inl 6), (4, .inl 1), (3, .inl (Int32.ofNat (72 + 6 * j))), (0, pm_r 67), (1, .inl 1), (2, .inl (Int32.ofNat j))] [.inl (Int32.ofNat j), .inl 1, pm_r 67] (pm_u (pm_up (pm_up (pm_up (pm_up (pm_up (pm_up x 73 6 (x 75 (72 + 6 * j))) 73 7 (x 75 (72 + 6 * j + 1))) 73 8 (x 75 (72 + 6 * j + 2))) 73 9 (x 75 (72 + 6 * j + 3))) 73 10 (x 75 (72 + 6 * j + 4))) 73 11 (x 75 (72 + 6 * j + 5))) (pm_up w 72 1 true) f)) else pm_ev (pm_call pm_Tf sc (d + 1)) sc 1 pm_c103 107 [(5, .inl 6), (4, .inl 1), (3, .inl (Int32.ofNat (72 + 6 * j))), (0, pm_r 67), (1, .inl 1), (2, .inl (Int32.ofNat j))] [.inl (Int32.ofNat j), .inl 1, pm_r 67] (pm_u (pm_up (pm_up (pm_up (pm_up (pm_up (pm_up x 73 6 (x 75 (72 + 6 * j))) 73 7 (x 75 (72 + 6 * j + 1))) 73 8 (x 75 (72 + 6 * j + 2))) 73 9 (x 75 (72 + 6 * j + 3))) 73 10 (x 75 (72 + 6 * j + 4))) 73 11 (x 75 (72 + 6 * j + 5))) (pm_up w 72 1 true) f) := by
    rcases pm_lt12 (show j < 12 by omega) with rfl | rfl | rfl | rfl | rfl | rfl | rfl | rfl | rfl | rfl | rfl | rfl <;> exact (pm_ev_iter [107] 300 _ _ _ _).trans rfl
  have g4 : ∀ (lv : pm_Lv) (y : Nat → Nat → Int32) (z : Nat → Nat → Bool), pm_ev (pm_call pm_Tf sc (d + 1)) sc 1 pm_c103 107 lv [.inl (Int32.ofNat j), .inl 1, pm_r 67] (pm_u y z f) = pm_call1 (fun v u => pm_ev (pm_call pm_Tf sc (d + 1)) sc 1 pm_c103 110 lv (v.toList ++ []) u) none (pm_call pm_Tf sc (d + 1) 102 [pm_r 67, .inl 1, .inl (Int32.ofNat j)] (pm_u y z f)) := fun lv y z => (pm_ev_step _ _ _ _).trans rfl
  refine g3.trans ?_
  have hxn : (pm_up (pm_up (pm_up (pm_up (pm_up (pm_up x 73 6 (x 75 (72 + 6 * j))) 73 7 (x 75 (72 + 6 * j + 1))) 73 8 (x 75 (72 + 6 * j + 2))) 73 9 (x 75 (72 + 6 * j + 3))) 73 10 (x 75 (72 + 6 * j + 4))) 73 11 (x 75 (72 + 6 * j + 5))) 74 1 = Int32.ofNat (n + 1) := hx
  unfold mk1
  by_cases h1 : w 72 1 = true
  · rw [if_pos h1, if_pos h1]
    by_cases h2 : x 75 (72 + 6 * j) ≤ x 73 6
    · rw [if_pos h2, if_pos h2, g4]
      refine (pm_call1_of (zto1 (d + 1) x (pm_up w 72 1 true) f j n hx hj hn)).trans ?_
      exact (pm_ev_iter [] 10 _ _ _ _).trans rfl
    · rw [if_neg h2, if_neg h2, g4]
      refine (pm_call1_of (zto1 (d + 1) _ (pm_up w 72 1 true) f j n hxn hj hn)).trans ?_
      exact (pm_ev_iter [] 10 _ _ _ _).trans rfl
  · rw [if_neg h1, if_neg h1, g4]
    refine (pm_call1_of (zto1 (d + 1) _ (pm_up w 72 1 true) f j n hxn hj hn)).trans ?_
    exact (pm_ev_iter [] 10 _ _ _ _).trans rfl
theorem zmfr1 {sc : pm_Sc} (d : Nat) (x : Nat → Nat → Int32) (w : Nat → Nat → Bool) (f : Nat → Nat → Nat) (n j : Nat) (hx : x 74 1 = Int32.ofNat (n + 1)) (hj : j ≤ n) (hn : n < 12) (m : Nat) (hm : m < 6) : pm_call pm_Tf sc (d + 2) 106 [pm_r 67, .inl 1, .inl (Int32.ofNat j), .inl (Int32.ofNat m)] (pm_u x w f) = some (some (.inl (x 75 (72 + 6 * j + m))), pm_u x w f) := by
  have g1 : pm_call pm_Tf sc (d + 2) 106 [pm_r 67, .inl 1, .inl (Int32.ofNat j), .inl (Int32.ofNat m)] (pm_u x w f) = pm_ev (pm_call pm_Tf sc (d + 1)) sc 1 pm_c106 3 [(0, pm_r 67), (1, .inl 1), (2, .inl (Int32.ofNat j)), (3, .inl (Int32.ofNat m))] [.inl (Int32.ofNat j), .inl 1, pm_r 67] (pm_u x w f) := (pm_ev_iter [3] 5 _ _ _ _).trans rfl
  have g2 : pm_ev (pm_call pm_Tf sc (d + 1)) sc 1 pm_c106 3 [(0, pm_r 67), (1, .inl 1), (2, .inl (Int32.ofNat j)), (3, .inl (Int32.ofNat m))] [.inl (Int32.ofNat j), .inl 1, pm_r 67] (pm_u x w f) = pm_call1 (fun v u => pm_ev (pm_call pm_Tf sc (d + 1)) sc 1 pm_c106 6 [(0, pm_r 67), (1, .inl 1), (2, .inl (Int32.ofNat j)), (3, .inl (Int32.ofNat m))] (v.toList ++ []) u) none (pm_call pm_Tf sc (d + 1) 101 [pm_r 67, .inl 1, .inl (Int32.ofNat j)] (pm_u x w f)) := (pm_ev_step _ _ _ _).trans rfl
  have g2' := z1011 (sc := sc) d (Int32.ofNat j) x w f
  rw [nf1 x w f n j hx hj hn] at g2'
  refine g1.trans (g2.trans ((pm_call1_of g2').trans ?_))
  rcases (show m = 0 ∨ m = 1 ∨ m = 2 ∨ m = 3 ∨ m = 4 ∨ m = 5 by omega) with rfl | rfl | rfl | rfl | rfl | rfl <;> (rcases pm_lt12 (show j < 12 by omega) with rfl | rfl | rfl | rfl | rfl | rfl | rfl | rfl | rfl | rfl | rfl | rfl) <;> exact (pm_ev_iter [] 40 _ _ _ _).trans rfl
theorem zmfb1 {sc : pm_Sc} (d : Nat) (x : Nat → Nat → Int32) (w : Nat → Nat → Bool) (f : Nat → Nat → Nat) (n j : Nat) (hx : x 74 1 = Int32.ofNat (n + 1)) (hj : j ≤ n) (hn : n < 12) (e0 : Int32) (he : e0 < 0 ∨ ¬ e0 ≤ 5) : pm_call pm_Tf sc (d + 2) 106 [pm_r 67, .inl 1, .inl (Int32.ofNat j), .inl e0] (pm_u x w f) = some (some (.inl (-1)), pm_u x w f) := by
  have g1 : pm_call pm_Tf sc (d + 2) 106 [pm_r 67, .inl 1, .inl (Int32.ofNat j), .inl e0] (pm_u x w f) = pm_ev (pm_call pm_Tf sc (d + 1)) sc 1 pm_c106 3 [(0, pm_r 67), (1, .inl 1), (2, .inl (Int32.ofNat j)), (3, .inl e0)] [.inl (Int32.ofNat j), .inl 1, pm_r 67] (pm_u x w f) := (pm_ev_iter [3] 5 _ _ _ _).trans rfl
  have g2 : pm_ev (pm_call pm_Tf sc (d + 1)) sc 1 pm_c106 3 [(0, pm_r 67), (1, .inl 1), (2, .inl (Int32.ofNat j)), (3, .inl e0)] [.inl (Int32.ofNat j), .inl 1, pm_r 67] (pm_u x w f) = pm_call1 (fun v u => pm_ev (pm_call pm_Tf sc (d + 1)) sc 1 pm_c106 6 [(0, pm_r 67), (1, .inl 1), (2, .inl (Int32.ofNat j)), (3, .inl e0)] (v.toList ++ []) u) none (pm_call pm_Tf sc (d + 1) 101 [pm_r 67, .inl 1, .inl (Int32.ofNat j)] (pm_u x w f)) := (pm_ev_step _ _ _ _).trans rfl
  have g2' := z1011 (sc := sc) d (Int32.ofNat j) x w f
  rw [nf1 x w f n j hx hj hn] at g2'
  refine g1.trans (g2.trans ((pm_call1_of g2').trans ?_))
  have g3 : pm_ev (pm_call pm_Tf sc (d + 1)) sc 1 pm_c106 6 [(0, pm_r 67), (1, .inl 1), (2, .inl (Int32.ofNat j)), (3, .inl e0)] ((some (pm_b false)).toList ++ []) (pm_u x w f) = if e0 < 0 then some (some (.inl (-1)), pm_u x w f) else if e0 ≤ 5 then pm_ev (pm_call pm_Tf sc (d + 1)) sc 1 pm_c106 22 [(0, pm_r 67), (1, .inl 1), (2, .inl (Int32.ofNat j)), (3, .inl e0)] [] (pm_u x w f) else some (some (.inl (-1)), pm_u x w f) := (pm_ev_iter [22] 40 _ _ _ _).trans rfl
  refine g3.trans ?_
  by_cases h : e0 < 0
  · rw [if_pos h]
  · rw [if_neg h, if_neg (he.resolve_left h)]
theorem tw_b1 {c : Nat → List pm_V → pm_S → Option pm_Rs} {sc : pm_Sc} (x : Nat → Nat → Int32) (w : Nat → Nat → Bool) (f : Nat → Nat → Nat) (i k : Nat) (hi : i < 138) : pm_ev c sc 1 pm_c105 39 [(3, .inl (Int32.ofNat (i + 6))), (0, pm_r 67), (1, .inl 1), (2, .inl (Int32.ofNat k))] [] (pm_u x w f) = if Int32.ofNat (i + 6) ≤ (72 : Int32) * 1 + 6 * Int32.ofNat k + 5 then pm_ev c sc 1 pm_c105 75 [(3, .inl (Int32.ofNat (i + 6))), (0, pm_r 67), (1, .inl 1), (2, .inl (Int32.ofNat k))] [] (pm_u x w f) else pm_ev c sc 1 pm_c105 39 [(3, .inl (Int32.ofNat (i + 5))), (0, pm_r 67), (1, .inl 1), (2, .inl (Int32.ofNat k))] [] (pm_u (pm_up x 75 (i + 6) (x 75 i)) w f) := by
  have h1 : pm_ev c sc 1 pm_c105 39 [(3, .inl (Int32.ofNat (i + 6))), (0, pm_r 67), (1, .inl 1), (2, .inl (Int32.ofNat k))] [] (pm_u x w f) = if Int32.ofNat (i + 6) ≤ (72 : Int32) * 1 + 6 * Int32.ofNat k + 5 then pm_ev c sc 1 pm_c105 75 [(3, .inl (Int32.ofNat (i + 6))), (0, pm_r 67), (1, .inl 1), (2, .inl (Int32.ofNat k))] [] (pm_u x w f) else pm_ev c sc 1 pm_c105 67 [(3, .inl (Int32.ofNat (i + 6))), (0, pm_r 67), (1, .inl 1), (2, .inl (Int32.ofNat k))] [.inl (Int32.ofNat (i + 6) - 6), pm_r 75, .inl (Int32.ofNat (i + 6)), pm_r 75] (pm_u x w f) := (pm_ev_iter [75, 67] 40 _ _ _ _).trans rfl
  rw [h1]
  congr 1
  rw [show Int32.ofNat (i + 6) - 6 = Int32.ofNat i from (pk_sub (a := i + 6) (b := 6) (by omega)).trans (congrArg nI (by omega)), pm_ev_step]
  show pm_ald sc 0 [.inl (Int32.ofNat i), pm_r 75, .inl (Int32.ofNat (i + 6)), pm_r 75] (pm_u x w f) (fun v st => pm_ev c sc 1 pm_c105 68 [(3, .inl (Int32.ofNat (i + 6))), (0, pm_r 67), (1, .inl 1), (2, .inl (Int32.ofNat k))] (v :: st) (pm_u x w f)) none = _
  refine (pm_ald_of (k := 75) (i := Int32.ofNat i) (u := pm_u x w f) (len := 144) rfl (pm_ib_of (by omega) (by decide))).trans ?_
  rw [show (Int32.ofNat i).toNatClampNeg = i from nI_clamp (by omega)]
  show pm_ev c sc 1 pm_c105 68 [(3, .inl (Int32.ofNat (i + 6))), (0, pm_r 67), (1, .inl 1), (2, .inl (Int32.ofNat k))] [.inl (x 75 i), .inl (Int32.ofNat (i + 6)), pm_r 75] (pm_u x w f) = _
  rw [pm_ev_step]
  show pm_ast 0 [.inl (x 75 i), .inl (Int32.ofNat (i + 6)), pm_r 75] (pm_u x w f) (fun st u => pm_ev c sc 1 pm_c105 69 [(3, .inl (Int32.ofNat (i + 6))), (0, pm_r 67), (1, .inl 1), (2, .inl (Int32.ofNat k))] st u) none = _
  refine (pm_ast_of (k := 75) (i := Int32.ofNat (i + 6)) (u := pm_u x w f) (len := 144) rfl (pm_ib_of (by omega) (by decide))).trans ?_
  rw [show (Int32.ofNat (i + 6)).toNatClampNeg = i + 6 from nI_clamp (by omega)]
  rw [show Int32.ofNat (i + 5) = Int32.ofNat (i + 6) + (-1) from (pk_m1 (i + 5)).symm]
  exact (pm_ev_iter [39] 5 _ _ _ _).trans rfl
theorem tw_l0 {c : Nat → List pm_V → pm_S → Option pm_Rs} {sc : pm_Sc} (x : Nat → Nat → Int32) (w : Nat → Nat → Bool) (f : Nat → Nat → Nat) (n k hi : Nat) (hx : x 74 0 = Int32.ofNat n) (hk : k < n) (hn : n < 12) (hhi : hi = 0 + 6 * n + 5) : ∀ (m i : Nat), i = 0 + 6 * k + 5 + m → i ≤ hi → pm_ev c sc 1 pm_c105 39 [(3, .inl (Int32.ofNat i)), (0, pm_r 67), (1, .inl 0), (2, .inl (Int32.ofNat k))] [] (pm_u (pm_tw x (i + 1) hi) w f) = some (some (.inl (Int32.ofNat (n + 1))), pm_u (pm_up (pm_tw x (0 + 6 * k + 6) hi) 74 0 (Int32.ofNat (n + 1))) w f)
  | 0, i, hm, hle => by
    have hx2 : pm_tw x (i + 1) hi 74 0 = Int32.ofNat n := by
      unfold pm_tw
      rw [if_neg (by omega)]
      exact hx
    have hc : (72 : Int32) * 0 + 6 * Int32.ofNat k + 5 = Int32.ofNat (0 + 6 * k + 5) := by
      rw [show (6 : Int32) * Int32.ofNat k = Int32.ofNat (6 * k) from pk_mul 6 k, show (72 : Int32) * 0 + Int32.ofNat (6 * k) = Int32.ofNat (0 + 6 * k) from nI_add 0 (6 * k)]
      exact nI_add (0 + 6 * k) 5
    have h3 : pm_ev c sc 1 pm_c105 39 [(3, .inl (Int32.ofNat i)), (0, pm_r 67), (1, .inl 0), (2, .inl (Int32.ofNat k))] [] (pm_u (pm_tw x (i + 1) hi) w f) = if Int32.ofNat i ≤ (72 : Int32) * 0 + 6 * Int32.ofNat k + 5 then pm_ev c sc 1 pm_c105 75 [(3, .inl (Int32.ofNat i)), (0, pm_r 67), (1, .inl 0), (2, .inl (Int32.ofNat k))] [] (pm_u (pm_tw x (i + 1) hi) w f) else pm_ev c sc 1 pm_c105 54 [(3, .inl (Int32.ofNat i)), (0, pm_r 67), (1, .inl 0), (2, .inl (Int32.ofNat k))] [] (pm_u (pm_tw x (i + 1) hi) w f) := (pm_ev_iter [75, 54] 40 _ _ _ _).trans rfl
    rw [h3, if_pos (by rw [hc]; exact nI_le (by omega) (by omega))]
    have h4 : pm_ev c sc 1 pm_c105 75 [(3, .inl (Int32.ofNat i)), (0, pm_r 67), (1, .inl 0), (2, .inl (Int32.ofNat k))] [] (pm_u (pm_tw x (i + 1) hi) w f) = some (some (.inl (pm_tw x (i + 1) hi 74 0 + 1)), pm_u (pm_up (pm_tw x (i + 1) hi) 74 0 (pm_tw x (i + 1) hi 74 0 + 1)) w f) := (pm_ev_iter [] 20 _ _ _ _).trans rfl
    rw [h4, hx2, show Int32.ofNat n + 1 = Int32.ofNat (n + 1) from nI_1 n, show i + 1 = 0 + 6 * k + 6 by omega]
  | m + 1, i, hm, hle => by
    obtain ⟨i', rfl⟩ : ∃ i', i = i' + 6 := ⟨i - 6, by omega⟩
    have hc : (72 : Int32) * 0 + 6 * Int32.ofNat k + 5 = Int32.ofNat (0 + 6 * k + 5) := by
      rw [show (6 : Int32) * Int32.ofNat k = Int32.ofNat (6 * k) from pk_mul 6 k, show (72 : Int32) * 0 + Int32.ofNat (6 * k) = Int32.ofNat (0 + 6 * k) from nI_add 0 (6 * k)]
      exact nI_add (0 + 6 * k) 5
    rw [tw_b0 (pm_tw x (i' + 6 + 1) hi) w f i' k (by omega), if_neg (by rw [hc]; exact nI_ge (by omega) (by omega)), show pm_up (pm_tw x (i' + 6 + 1) hi) 75 (i' + 6) (pm_tw x (i' + 6 + 1) hi 75 i') = pm_tw x (i' + 6) hi from pm_tw_s x i' hi hle]
    exact tw_l0 x w f n k hi hx hk hn hhi m (i' + 5) (by omega) (by omega)
theorem zmtf0 {sc : pm_Sc} (d : Nat) (x : Nat → Nat → Int32) (w : Nat → Nat → Bool) (f : Nat → Nat → Nat) (n j : Nat) (hx : x 74 0 = Int32.ofNat (n + 1)) (hj : j ≤ n) (hn : n = 11) : pm_call pm_Tf sc (d + 2) 105 [pm_r 67, .inl 0, .inl (Int32.ofNat j)] (pm_u x w f) = some (some (.inl (-1)), pm_u x w f) := by
  have g1 : pm_call pm_Tf sc (d + 2) 105 [pm_r 67, .inl 0, .inl (Int32.ofNat j)] (pm_u x w f) = pm_ev (pm_call pm_Tf sc (d + 1)) sc 1 pm_c105 3 [(0, pm_r 67), (1, .inl 0), (2, .inl (Int32.ofNat j))] [.inl (Int32.ofNat j), .inl 0, pm_r 67] (pm_u x w f) := (pm_ev_iter [3] 5 _ _ _ _).trans rfl
  have g2 : pm_ev (pm_call pm_Tf sc (d + 1)) sc 1 pm_c105 3 [(0, pm_r 67), (1, .inl 0), (2, .inl (Int32.ofNat j))] [.inl (Int32.ofNat j), .inl 0, pm_r 67] (pm_u x w f) = pm_call1 (fun v u => pm_ev (pm_call pm_Tf sc (d + 1)) sc 1 pm_c105 6 [(0, pm_r 67), (1, .inl 0), (2, .inl (Int32.ofNat j))] (v.toList ++ []) u) none (pm_call pm_Tf sc (d + 1) 101 [pm_r 67, .inl 0, .inl (Int32.ofNat j)] (pm_u x w f)) := (pm_ev_step _ _ _ _).trans rfl
  have g2' := z1010 (sc := sc) d (Int32.ofNat j) x w f
  rw [nf0 x w f n j hx hj (by omega)] at g2'
  refine g1.trans (g2.trans ((pm_call1_of g2').trans ?_))
  have g3 : pm_ev (pm_call pm_Tf sc (d + 1)) sc 1 pm_c105 6 [(0, pm_r 67), (1, .inl 0), (2, .inl (Int32.ofNat j))] ((some (pm_b false)).toList ++ []) (pm_u x w f) = if x 74 0 = 12 then some (some (.inl (-1)), pm_u x w f) else pm_ev (pm_call pm_Tf sc (d + 1)) sc 1 pm_c105 39 [(3, .inl ((72 : Int32) * 0 + 6 * x 74 0 + 5)), (0, pm_r 67), (1, .inl 0), (2, .inl (Int32.ofNat j))] [] (pm_u x w f) := (pm_ev_iter [39] 40 _ _ _ _).trans rfl
  refine g3.trans ?_
  rw [if_pos (show x 74 0 = 12 by rw [hx, hn]; rfl)]
theorem zmtw0 {sc : pm_Sc} (d : Nat) (x : Nat → Nat → Int32) (w : Nat → Nat → Bool) (f : Nat → Nat → Nat) (n j : Nat) (hx : x 74 0 = Int32.ofNat (n + 1)) (hj : j ≤ n) (hn : n < 11) : pm_call pm_Tf sc (d + 2) 105 [pm_r 67, .inl 0, .inl (Int32.ofNat j)] (pm_u x w f) = some (some (.inl (Int32.ofNat (n + 2))), pm_u (pm_up (pm_tw x (0 + 6 * j + 6) (0 + 6 * (n + 1) + 5)) 74 0 (Int32.ofNat (n + 2))) w f) := by
  have g1 : pm_call pm_Tf sc (d + 2) 105 [pm_r 67, .inl 0, .inl (Int32.ofNat j)] (pm_u x w f) = pm_ev (pm_call pm_Tf sc (d + 1)) sc 1 pm_c105 3 [(0, pm_r 67), (1, .inl 0), (2, .inl (Int32.ofNat j))] [.inl (Int32.ofNat j), .inl 0, pm_r 67] (pm_u x w f) := (pm_ev_iter [3] 5 _ _ _ _).trans rfl
  have g2 : pm_ev (pm_call pm_Tf sc (d + 1)) sc 1 pm_c105 3 [(0, pm_r 67), (1, .inl 0), (2, .inl (Int32.ofNat j))] [.inl (Int32.ofNat j), .inl 0, pm_r 67] (pm_u x w f) = pm_call1 (fun v u => pm_ev (pm_call pm_Tf sc (d + 1)) sc 1 pm_c105 6 [(0, pm_r 67), (1, .inl 0), (2, .inl (Int32.ofNat j))] (v.toList ++ []) u) none (pm_call pm_Tf sc (d + 1) 101 [pm_r 67, .inl 0, .inl (Int32.ofNat j)] (pm_u x w f)) := (pm_ev_step _ _ _ _).trans rfl
  have g2' := z1010 (sc := sc) d (Int32.ofNat j) x w f
  rw [nf0 x w f n j hx hj (by omega)] at g2'
  refine g1.trans (g2.trans ((pm_call1_of g2').trans ?_))
  have g3 : pm_ev (pm_call pm_Tf sc (d + 1)) sc 1 pm_c105 6 [(0, pm_r 67), (1, .inl 0), (2, .inl (Int32.ofNat j))] ((some (pm_b false)).toList ++ []) (pm_u x w f) = if x 74 0 = 12 then some (some (.inl (-1)), pm_u x w f) else pm_ev (pm_call pm_Tf sc (d + 1)) sc 1 pm_c105 39 [(3, .inl ((72 : Int32) * 0 + 6 * x 74 0 + 5)), (0, pm_r 67), (1, .inl 0), (2, .inl (Int32.ofNat j))] [] (pm_u x w f) := (pm_ev_iter [39] 40 _ _ _ _).trans rfl
  refine g3.trans ?_
  rw [if_neg (show ¬ x 74 0 = 12 by rw [hx]; exact fun h => by have := (nI_eq (a := n + 1) (b := 12) (by omega) (by decide)).mp h; omega), hx]
  have hc : (72 : Int32) * 0 + 6 * Int32.ofNat (n + 1) + 5 = Int32.ofNat (0 + 6 * (n + 1) + 5) := by
    rw [show (6 : Int32) * Int32.ofNat (n + 1) = Int32.ofNat (6 * (n + 1)) from pk_mul 6 (n + 1), show (72 : Int32) * 0 + Int32.ofNat (6 * (n + 1)) = Int32.ofNat (0 + 6 * (n + 1)) from nI_add 0 (6 * (n + 1))]
    exact nI_add (0 + 6 * (n + 1)) 5
  rw [hc]
  have h2 := tw_l0 (c := pm_call pm_Tf sc (d + 1)) (sc := sc) x w f (n + 1) j (0 + 6 * (n + 1) + 5) hx (by omega) (by omega) rfl (6 * (n + 1) - 6 * j) (0 + 6 * (n + 1) + 5) (by omega) (Nat.le_refl _)
  rw [pm_tw_0] at h2
  exact h2
theorem tw_l1 {c : Nat → List pm_V → pm_S → Option pm_Rs} {sc : pm_Sc} (x : Nat → Nat → Int32) (w : Nat → Nat → Bool) (f : Nat → Nat → Nat) (n k hi : Nat) (hx : x 74 1 = Int32.ofNat n) (hk : k < n) (hn : n < 12) (hhi : hi = 72 + 6 * n + 5) : ∀ (m i : Nat), i = 72 + 6 * k + 5 + m → i ≤ hi → pm_ev c sc 1 pm_c105 39 [(3, .inl (Int32.ofNat i)), (0, pm_r 67), (1, .inl 1), (2, .inl (Int32.ofNat k))] [] (pm_u (pm_tw x (i + 1) hi) w f) = some (some (.inl (Int32.ofNat (n + 1))), pm_u (pm_up (pm_tw x (72 + 6 * k + 6) hi) 74 1 (Int32.ofNat (n + 1))) w f)
  | 0, i, hm, hle => by
    have hx2 : pm_tw x (i + 1) hi 74 1 = Int32.ofNat n := by
      unfold pm_tw
      rw [if_neg (by omega)]
      exact hx
    have hc : (72 : Int32) * 1 + 6 * Int32.ofNat k + 5 = Int32.ofNat (72 + 6 * k + 5) := by
      rw [show (6 : Int32) * Int32.ofNat k = Int32.ofNat (6 * k) from pk_mul 6 k, show (72 : Int32) * 1 + Int32.ofNat (6 * k) = Int32.ofNat (72 + 6 * k) from nI_add 72 (6 * k)]
      exact nI_add (72 + 6 * k) 5
    have h3 : pm_ev c sc 1 pm_c105 39 [(3, .inl (Int32.ofNat i)), (0, pm_r 67), (1, .inl 1), (2, .inl (Int32.ofNat k))] [] (pm_u (pm_tw x (i + 1) hi) w f) = if Int32.ofNat i ≤ (72 : Int32) * 1 + 6 * Int32.ofNat k + 5 then pm_ev c sc 1 pm_c105 75 [(3, .inl (Int32.ofNat i)), (0, pm_r 67), (1, .inl 1), (2, .inl (Int32.ofNat k))] [] (pm_u (pm_tw x (i + 1) hi) w f) else pm_ev c sc 1 pm_c105 54 [(3, .inl (Int32.ofNat i)), (0, pm_r 67), (1, .inl 1), (2, .inl (Int32.ofNat k))] [] (pm_u (pm_tw x (i + 1) hi) w f) := (pm_ev_iter [75, 54] 40 _ _ _ _).trans rfl
    rw [h3, if_pos (by rw [hc]; exact nI_le (by omega) (by omega))]
    have h4 : pm_ev c sc 1 pm_c105 75 [(3, .inl (Int32.ofNat i)), (0, pm_r 67), (1, .inl 1), (2, .inl (Int32.ofNat k))] [] (pm_u (pm_tw x (i + 1) hi) w f) = some (some (.inl (pm_tw x (i + 1) hi 74 1 + 1)), pm_u (pm_up (pm_tw x (i + 1) hi) 74 1 (pm_tw x (i + 1) hi 74 1 + 1)) w f) := (pm_ev_iter [] 20 _ _ _ _).trans rfl
    rw [h4, hx2, show Int32.ofNat n + 1 = Int32.ofNat (n + 1) from nI_1 n, show i + 1 = 72 + 6 * k + 6 by omega]
  | m + 1, i, hm, hle => by
    obtain ⟨i', rfl⟩ : ∃ i', i = i' + 6 := ⟨i - 6, by omega⟩
    have hc : (72 : Int32) * 1 + 6 * Int32.ofNat k + 5 = Int32.ofNat (72 + 6 * k + 5) := by
      rw [show (6 : Int32) * Int32.ofNat k = Int32.ofNat (6 * k) from pk_mul 6 k, show (72 : Int32) * 1 + Int32.ofNat (6 * k) = Int32.ofNat (72 + 6 * k) from nI_add 72 (6 * k)]
      exact nI_add (72 + 6 * k) 5
    rw [tw_b1 (pm_tw x (i' + 6 + 1) hi) w f i' k (by omega), if_neg (by rw [hc]; exact nI_ge (by omega) (by omega)), show pm_up (pm_tw x (i' + 6 + 1) hi) 75 (i' + 6) (pm_tw x (i' + 6 + 1) hi 75 i') = pm_tw x (i' + 6) hi from pm_tw_s x i' hi hle]
    exact tw_l1 x w f n k hi hx hk hn hhi m (i' + 5) (by omega) (by omega)
theorem zmtf1 {sc : pm_Sc} (d : Nat) (x : Nat → Nat → Int32) (w : Nat → Nat → Bool) (f : Nat → Nat → Nat) (n j : Nat) (hx : x 74 1 = Int32.ofNat (n + 1)) (hj : j ≤ n) (hn : n = 11) : pm_call pm_Tf sc (d + 2) 105 [pm_r 67, .inl 1, .inl (Int32.ofNat j)] (pm_u x w f) = some (some (.inl (-1)), pm_u x w f) := by
  have g1 : pm_call pm_Tf sc (d + 2) 105 [pm_r 67, .inl 1, .inl (Int32.ofNat j)] (pm_u x w f) = pm_ev (pm_call pm_Tf sc (d + 1)) sc 1 pm_c105 3 [(0, pm_r 67), (1, .inl 1), (2, .inl (Int32.ofNat j))] [.inl (Int32.ofNat j), .inl 1, pm_r 67] (pm_u x w f) := (pm_ev_iter [3] 5 _ _ _ _).trans rfl
  have g2 : pm_ev (pm_call pm_Tf sc (d + 1)) sc 1 pm_c105 3 [(0, pm_r 67), (1, .inl 1), (2, .inl (Int32.ofNat j))] [.inl (Int32.ofNat j), .inl 1, pm_r 67] (pm_u x w f) = pm_call1 (fun v u => pm_ev (pm_call pm_Tf sc (d + 1)) sc 1 pm_c105 6 [(0, pm_r 67), (1, .inl 1), (2, .inl (Int32.ofNat j))] (v.toList ++ []) u) none (pm_call pm_Tf sc (d + 1) 101 [pm_r 67, .inl 1, .inl (Int32.ofNat j)] (pm_u x w f)) := (pm_ev_step _ _ _ _).trans rfl
  have g2' := z1011 (sc := sc) d (Int32.ofNat j) x w f
  rw [nf1 x w f n j hx hj (by omega)] at g2'
  refine g1.trans (g2.trans ((pm_call1_of g2').trans ?_))
  have g3 : pm_ev (pm_call pm_Tf sc (d + 1)) sc 1 pm_c105 6 [(0, pm_r 67), (1, .inl 1), (2, .inl (Int32.ofNat j))] ((some (pm_b false)).toList ++ []) (pm_u x w f) = if x 74 1 = 12 then some (some (.inl (-1)), pm_u x w f) else pm_ev (pm_call pm_Tf sc (d + 1)) sc 1 pm_c105 39 [(3, .inl ((72 : Int32) * 1 + 6 * x 74 1 + 5)), (0, pm_r 67), (1, .inl 1), (2, .inl (Int32.ofNat j))] [] (pm_u x w f) := (pm_ev_iter [39] 40 _ _ _ _).trans rfl
  refine g3.trans ?_
  rw [if_pos (show x 74 1 = 12 by rw [hx, hn]; rfl)]
theorem zmtw1 {sc : pm_Sc} (d : Nat) (x : Nat → Nat → Int32) (w : Nat → Nat → Bool) (f : Nat → Nat → Nat) (n j : Nat) (hx : x 74 1 = Int32.ofNat (n + 1)) (hj : j ≤ n) (hn : n < 11) : pm_call pm_Tf sc (d + 2) 105 [pm_r 67, .inl 1, .inl (Int32.ofNat j)] (pm_u x w f) = some (some (.inl (Int32.ofNat (n + 2))), pm_u (pm_up (pm_tw x (72 + 6 * j + 6) (72 + 6 * (n + 1) + 5)) 74 1 (Int32.ofNat (n + 2))) w f) := by
  have g1 : pm_call pm_Tf sc (d + 2) 105 [pm_r 67, .inl 1, .inl (Int32.ofNat j)] (pm_u x w f) = pm_ev (pm_call pm_Tf sc (d + 1)) sc 1 pm_c105 3 [(0, pm_r 67), (1, .inl 1), (2, .inl (Int32.ofNat j))] [.inl (Int32.ofNat j), .inl 1, pm_r 67] (pm_u x w f) := (pm_ev_iter [3] 5 _ _ _ _).trans rfl
  have g2 : pm_ev (pm_call pm_Tf sc (d + 1)) sc 1 pm_c105 3 [(0, pm_r 67), (1, .inl 1), (2, .inl (Int32.ofNat j))] [.inl (Int32.ofNat j), .inl 1, pm_r 67] (pm_u x w f) = pm_call1 (fun v u => pm_ev (pm_call pm_Tf sc (d + 1)) sc 1 pm_c105 6 [(0, pm_r 67), (1, .inl 1), (2, .inl (Int32.ofNat j))] (v.toList ++ []) u) none (pm_call pm_Tf sc (d + 1) 101 [pm_r 67, .inl 1, .inl (Int32.ofNat j)] (pm_u x w f)) := (pm_ev_step _ _ _ _).trans rfl
  have g2' := z1011 (sc := sc) d (Int32.ofNat j) x w f
  rw [nf1 x w f n j hx hj (by omega)] at g2'
  refine g1.trans (g2.trans ((pm_call1_of g2').trans ?_))
  have g3 : pm_ev (pm_call pm_Tf sc (d + 1)) sc 1 pm_c105 6 [(0, pm_r 67), (1, .inl 1), (2, .inl (Int32.ofNat j))] ((some (pm_b false)).toList ++ []) (pm_u x w f) = if x 74 1 = 12 then some (some (.inl (-1)), pm_u x w f) else pm_ev (pm_call pm_Tf sc (d + 1)) sc 1 pm_c105 39 [(3, .inl ((72 : Int32) * 1 + 6 * x 74 1 + 5)), (0, pm_r 67), (1, .inl 1), (2, .inl (Int32.ofNat j))] [] (pm_u x w f) := (pm_ev_iter [39] 40 _ _ _ _).trans rfl
  refine g3.trans ?_
  rw [if_neg (show ¬ x 74 1 = 12 by rw [hx]; exact fun h => by have := (nI_eq (a := n + 1) (b := 12) (by omega) (by decide)).mp h; omega), hx]
  have hc : (72 : Int32) * 1 + 6 * Int32.ofNat (n + 1) + 5 = Int32.ofNat (72 + 6 * (n + 1) + 5) := by
    rw [show (6 : Int32) * Int32.ofNat (n + 1) = Int32.ofNat (6 * (n + 1)) from pk_mul 6 (n + 1), show (72 : Int32) * 1 + Int32.ofNat (6 * (n + 1)) = Int32.ofNat (72 + 6 * (n + 1)) from nI_add 72 (6 * (n + 1))]
    exact nI_add (72 + 6 * (n + 1)) 5
  rw [hc]
  have h2 := tw_l1 (c := pm_call pm_Tf sc (d + 1)) (sc := sc) x w f (n + 1) j (72 + 6 * (n + 1) + 5) hx (by omega) (by omega) rfl (6 * (n + 1) - 6 * j) (72 + 6 * (n + 1) + 5) (by omega) (Nat.le_refl _)
  rw [pm_tw_0] at h2
  exact h2

/-! The calls that touch the lines. -/
theorem pm_FF {q : Nat} (h : q ∈ pm_F0 ∨ q ∈ pm_F1) : q ∈ pm_FP := by
  rcases h with h | h
  · simp only [pm_F0, List.mem_cons, List.not_mem_nil, or_false] at h
    rcases h with rfl | rfl | rfl | rfl | rfl | rfl | rfl | rfl | rfl | rfl | rfl | rfl <;> decide
  · simp only [pm_F1, List.mem_cons, List.not_mem_nil, or_false] at h
    rcases h with rfl | rfl | rfl | rfl | rfl | rfl | rfl | rfl | rfl | rfl | rfl | rfl <;> decide
theorem pm_cx_ne {x : Nat → Nat → Int32} {q q2 a : Nat} (h : a ≠ q) : pm_cx x q q2 a = x a := by
  unfold pm_cx
  rw [pm_up_ne h, pm_up_ne h, pm_up_ne h, pm_up_ne h]
theorem pm_cw_ne {w : Nat → Nat → Bool} {q q2 a : Nat} (h : a ≠ q) : pm_cw w q q2 a = w a := by
  unfold pm_cw
  rw [pm_up_ne h, pm_up_ne h]
/-- the copy of frame k of line s stands next to it; the spare frame n has become it -/
def pm_dbl (f : Nat → Nat → Nat) (s k n : Nat) : Nat → Nat → Nat := fun a j => if a = s ∧ k + 1 < j ∧ j ≤ n then f s (j - 1) else if a = s ∧ j = k + 1 then f s n else f a j
def pm_shr (f : Nat → Nat → Nat) (s i n : Nat) : Nat → Nat → Nat := fun a j => if a = s ∧ i < j ∧ j ≤ n then f s (j - 1) else f a j
theorem pm_shr_0 (f : Nat → Nat → Nat) (s n : Nat) : pm_shr f s n n = f := by
  funext a j
  unfold pm_shr
  rw [if_neg (by omega)]
theorem pm_shr_s (f : Nat → Nat → Nat) (s i n : Nat) (h : i + 1 ≤ n) : pm_up (pm_shr f s (i + 1) n) s (i + 1) (pm_shr f s (i + 1) n s i) = pm_shr f s i n := by
  funext a j
  rw [pm_up_eq]
  unfold pm_shr
  by_cases h1 : a = s ∧ j = i + 1
  · rw [if_pos h1, if_neg (by omega), if_pos (by omega), h1.2, Nat.add_sub_cancel]
  · rw [if_neg h1]
    by_cases h2 : a = s ∧ i + 1 < j ∧ j ≤ n
    · rw [if_pos h2, if_pos (by omega)]
    · rw [if_neg h2, if_neg (by omega)]
theorem pm_shr_e (f : Nat → Nat → Nat) (s k n : Nat) : pm_up (pm_shr f s (k + 1) n) s (k + 1) (f s n) = pm_dbl f s k n := by
  funext a j
  rw [pm_up_eq]
  unfold pm_shr pm_dbl
  by_cases h1 : a = s ∧ j = k + 1
  · rw [if_pos h1, if_neg (by omega), if_pos h1]
  · rw [if_neg h1]
    by_cases h2 : a = s ∧ k + 1 < j ∧ j ≤ n
    · rw [if_pos h2, if_pos h2]
    · rw [if_neg h2, if_neg h2, if_neg h1]
def ck0 (q : Nat) (x : Nat → Nat → Int32) (w : Nat → Nat → Bool) : Bool × (Nat → Nat → Int32) × (Nat → Nat → Bool) := if x 31 0 < x q 0 then (true, pm_cx x 31 q, pm_cw w 31 q) else (false, x, w)
theorem zck0 {sc : pm_Sc} (d : Nat) (x : Nat → Nat → Int32) (w : Nat → Nat → Bool) (f : Nat → Nat → Nat) (q : Nat) (hq : q ∈ pm_F0) : pm_call pm_Tf sc (d + 1) 24 [pm_r 29, pm_r q] (pm_u x w f) = some (some (pm_b (ck0 q x w).1), pm_u (ck0 q x w).2.1 (ck0 q x w).2.2 f) := by
  have h1 : pm_call pm_Tf sc (d + 1) 24 [pm_r 29, pm_r q] (pm_u x w f) = if x 31 0 < x q 0 then pm_ev (pm_call pm_Tf sc d) sc 2 pm_c24 21 [(0, pm_r 29), (1, pm_r q)] [pm_r q, pm_r 31] (pm_u x w f) else some (some (pm_b false), pm_u x w f) := by
    (simp only [pm_F0, List.mem_cons, List.not_mem_nil, or_false] at hq; rcases hq with rfl | rfl | rfl | rfl | rfl | rfl | rfl | rfl | rfl | rfl | rfl | rfl) <;> exact (pm_ev_iter [21] 20 _ _ _ _).trans rfl
  rw [h1]
  unfold ck0
  by_cases h : x 31 0 < x q 0
  · rw [if_pos h, if_pos h]
    have h2 : pm_ev (pm_call pm_Tf sc d) sc 2 pm_c24 21 [(0, pm_r 29), (1, pm_r q)] [pm_r q, pm_r 31] (pm_u x w f) = pm_call1 (fun v u => pm_ev (pm_call pm_Tf sc d) sc 2 pm_c24 24 [(0, pm_r 29), (1, pm_r q)] (v.toList ++ []) u) none (pm_call pm_Tf sc d 2 [pm_r 31, pm_r q] (pm_u x w f)) := (pm_ev_step _ _ _ _).trans rfl
    have hb := pm_F0_ne hq
    rw [h2, pm_call1_of (zcopy d x w f 31 q rfl (pm_F0_c hq) (by omega))]
    exact (pm_ev_iter [] 5 _ _ _ _).trans rfl
  · rw [if_neg h, if_neg h]
theorem lck0 (q : Nat) (x : Nat → Nat → Int32) (w : Nat → Nat → Bool) : ∀ aa, aa ≠ 31 → (ck0 q x w).2.1 aa = x aa ∧ (ck0 q x w).2.2 aa = w aa := by
  intro aa ha
  unfold ck0
  split
  · exact ⟨pm_cx_ne ha, pm_cw_ne ha⟩
  · exact ⟨rfl, rfl⟩
theorem uw0 (x : Nat → Nat → Int32) (w : Nat → Nat → Bool) (f : Nat → Nat → Nat) (n j : Nat) (hx : x 1 1 = Int32.ofNat (n + 1)) (hj : j ≤ n) (hn : n < 12) : q680 (Int32.ofNat j) x w f = true := by
  unfold q680
  rw [if_pos (show q69 0 x w f = true from rfl)]
  unfold q71
  rw [hx, show Int32.ofNat (n + 1) - 1 = Int32.ofNat n from nI_pred n, if_neg (show ¬ Int32.ofNat j < 0 from nI_pos (by omega)), if_neg (show ¬ Int32.ofNat n < Int32.ofNat j from nI_nlt hj (by omega))]
  rfl
theorem zdel0 {sc : pm_Sc} (d : Nat) (x : Nat → Nat → Int32) (w : Nat → Nat → Bool) (f : Nat → Nat → Nat) (n j : Nat) (hx : x 1 1 = Int32.ofNat (n + 1)) (hj : j ≤ n) (hn : n < 12) (hf : pm_ff f) : pm_call pm_Tf sc (d + 3) 56 [pm_r 0, .inl 0, .inl (Int32.ofNat j)] (pm_u x w f) = some (some (.inl (if (ck0 (f 0 j) x w).1 = true then 1 else 0)), pm_u (pm_up (ck0 (f 0 j) x w).2.1 1 1 (Int32.ofNat n)) (ck0 (f 0 j) x w).2.2 (pm_rmv f 0 j n)) := by
  have g1 : pm_call pm_Tf sc (d + 3) 56 [pm_r 0, .inl 0, .inl (Int32.ofNat j)] (pm_u x w f) = pm_ev (pm_call pm_Tf sc (d + 2)) sc 1 pm_c56 3 [(0, pm_r 0), (1, .inl 0), (2, .inl (Int32.ofNat j))] [.inl (Int32.ofNat j), .inl 0, pm_r 0] (pm_u x w f) := (pm_ev_iter [3] 5 _ _ _ _).trans rfl
  have g2 : pm_ev (pm_call pm_Tf sc (d + 2)) sc 1 pm_c56 3 [(0, pm_r 0), (1, .inl 0), (2, .inl (Int32.ofNat j))] [.inl (Int32.ofNat j), .inl 0, pm_r 0] (pm_u x w f) = pm_call1 (fun v u => pm_ev (pm_call pm_Tf sc (d + 2)) sc 1 pm_c56 6 [(0, pm_r 0), (1, .inl 0), (2, .inl (Int32.ofNat j))] (v.toList ++ []) u) none (pm_call pm_Tf sc (d + 2) 68 [pm_r 0, .inl 0, .inl (Int32.ofNat j)] (pm_u x w f)) := (pm_ev_step _ _ _ _).trans rfl
  have hu := uw0 x w f n j hx hj hn
  have g2' := z680 (sc := sc) d (Int32.ofNat j) x w f
  rw [hu] at g2'
  have g3 : pm_ev (pm_call pm_Tf sc (d + 2)) sc 1 pm_c56 6 [(0, pm_r 0), (1, .inl 0), (2, .inl (Int32.ofNat j))] ((some (pm_b true)).toList ++ []) (pm_u x w f) = pm_ev (pm_call pm_Tf sc (d + 2)) sc 1 pm_c56 13 [(0, pm_r 0), (1, .inl 0), (2, .inl (Int32.ofNat j))] [.inl 0, pm_r 0] (pm_u x w f) := (pm_ev_iter [13] 5 _ _ _ _).trans rfl
  have g4 : pm_ev (pm_call pm_Tf sc (d + 2)) sc 1 pm_c56 13 [(0, pm_r 0), (1, .inl 0), (2, .inl (Int32.ofNat j))] [.inl 0, pm_r 0] (pm_u x w f) = pm_call1 (fun v u => pm_ev (pm_call pm_Tf sc (d + 2)) sc 1 pm_c56 16 [(0, pm_r 0), (1, .inl 0), (2, .inl (Int32.ofNat j))] (v.toList ++ []) u) none (pm_call pm_Tf sc (d + 2) 67 [pm_r 0, .inl 0] (pm_u x w f)) := (pm_ev_step _ _ _ _).trans rfl
  refine g1.trans (g2.trans ((pm_call1_of g2').trans (g3.trans (g4.trans ((pm_call1_of (show pm_call pm_Tf sc (d + 2) 67 [pm_r 0, .inl 0] (pm_u x w f) = some (some (pm_r 29), pm_u x w f) from z670 (d + 2) x w f)).trans ?_)))))
  have hq := (hf j (by omega)).1
  have g5 : pm_ev (pm_call pm_Tf sc (d + 2)) sc 1 pm_c56 16 [(0, pm_r 0), (1, .inl 0), (2, .inl (Int32.ofNat j))] ((some (pm_r 29)).toList ++ []) (pm_u x w f) = pm_ev (pm_call pm_Tf sc (d + 2)) sc 1 pm_c56 27 [(3, pm_r 29), (0, pm_r 0), (1, .inl 0), (2, .inl (Int32.ofNat j))] [pm_r (f 0 j), pm_r 29] (pm_u x w f) := by
    rcases pm_lt12 (show j < 12 by omega) with rfl | rfl | rfl | rfl | rfl | rfl | rfl | rfl | rfl | rfl | rfl | rfl <;> exact (pm_ev_iter [27] 10 _ _ _ _).trans rfl
  have hcq := pm_F0_c hq
  have g6 : pm_ev (pm_call pm_Tf sc (d + 2)) sc 1 pm_c56 27 [(3, pm_r 29), (0, pm_r 0), (1, .inl 0), (2, .inl (Int32.ofNat j))] [pm_r (f 0 j), pm_r 29] (pm_u x w f) = pm_call1 (fun v u => pm_ev (pm_call pm_Tf sc (d + 2)) sc 1 pm_c56 30 [(3, pm_r 29), (0, pm_r 0), (1, .inl 0), (2, .inl (Int32.ofNat j))] (v.toList ++ []) u) none (pm_call pm_Tf sc (d + 2) 24 [pm_r 29, pm_r (f 0 j)] (pm_u x w f)) := (pm_ev_step _ _ _ _).trans rfl
  refine g5.trans (g6.trans ((pm_call1_of (zck0 (d + 1) x w f (f 0 j) hq)).trans ?_))
  have hx2 : (ck0 (f 0 j) x w).2.1 1 1 = Int32.ofNat (n + 1) := by rw [(lck0 (f 0 j) x w 1 (by decide)).1]; exact hx
  generalize ck0 (f 0 j) x w = t at hx2 ⊢
  have g7 : pm_ev (pm_call pm_Tf sc (d + 2)) sc 1 pm_c56 30 [(3, pm_r 29), (0, pm_r 0), (1, .inl 0), (2, .inl (Int32.ofNat j))] ((some (pm_b t.1)).toList ++ []) (pm_u t.2.1 t.2.2 f) = pm_ev (pm_call pm_Tf sc (d + 2)) sc 1 pm_c56 37 ((4, pm_b t.1) :: [(3, pm_r 29), (0, pm_r 0), (1, .inl 0), (2, .inl (Int32.ofNat j))]) [.inl (Int32.ofNat j), pm_r 1] (pm_u t.2.1 t.2.2 f) := (pm_ev_iter [37] 10 _ _ _ _).trans rfl
  have g8 : pm_ev (pm_call pm_Tf sc (d + 2)) sc 1 pm_c56 37 ((4, pm_b t.1) :: [(3, pm_r 29), (0, pm_r 0), (1, .inl 0), (2, .inl (Int32.ofNat j))]) [.inl (Int32.ofNat j), pm_r 1] (pm_u t.2.1 t.2.2 f) = pm_call1 (fun v u => pm_ev (pm_call pm_Tf sc (d + 2)) sc 1 pm_c56 40 ((4, pm_b t.1) :: [(3, pm_r 29), (0, pm_r 0), (1, .inl 0), (2, .inl (Int32.ofNat j))]) (v.toList ++ []) u) none (pm_call pm_Tf sc (d + 2) 17 [pm_r 1, .inl (Int32.ofNat j)] (pm_u t.2.1 t.2.2 f)) := (pm_ev_step _ _ _ _).trans rfl
  refine g7.trans (g8.trans ((pm_call1_of (zrm0 (d + 2) t.2.1 t.2.2 f j n hx2 hj hn (fun i hi => pm_F0_c (hf i hi).1))).trans ?_))
  have g9 : ∀ (y : Nat → Nat → Int32) (g : Nat → Nat → Nat), pm_ev (pm_call pm_Tf sc (d + 2)) sc 1 pm_c56 40 ((4, pm_b t.1) :: [(3, pm_r 29), (0, pm_r 0), (1, .inl 0), (2, .inl (Int32.ofNat j))]) ((none : Option pm_V).toList ++ []) (pm_u y t.2.2 g) = pm_ev (pm_call pm_Tf sc (d + 2)) sc 1 pm_c56 42 ((4, pm_b t.1) :: [(3, pm_r 29), (0, pm_r 0), (1, .inl 0), (2, .inl (Int32.ofNat j))]) [pm_b t.1] (pm_u y t.2.2 g) := fun y g => (pm_ev_iter [42] 10 _ _ _ _).trans rfl
  have g10 : ∀ (y : Nat → Nat → Int32) (g : Nat → Nat → Nat), pm_ev (pm_call pm_Tf sc (d + 2)) sc 1 pm_c56 42 ((4, pm_b t.1) :: [(3, pm_r 29), (0, pm_r 0), (1, .inl 0), (2, .inl (Int32.ofNat j))]) [pm_b t.1] (pm_u y t.2.2 g) = pm_call1 (fun v u => pm_ev (pm_call pm_Tf sc (d + 2)) sc 1 pm_c56 45 ((4, pm_b t.1) :: [(3, pm_r 29), (0, pm_r 0), (1, .inl 0), (2, .inl (Int32.ofNat j))]) (v.toList ++ []) u) none (pm_call pm_Tf sc (d + 2) 72 [pm_b t.1] (pm_u y t.2.2 g)) := fun y g => (pm_ev_step _ _ _ _).trans rfl
  refine (g9 _ _).trans ((g10 _ _).trans ((pm_call1_of (z72 (d + 2) t.1 _ t.2.2 _)).trans ?_))
  exact (pm_ev_iter [] 5 _ _ _ _).trans rfl
theorem zdrp0 {sc : pm_Sc} (d : Nat) (x : Nat → Nat → Int32) (w : Nat → Nat → Bool) (f : Nat → Nat → Nat) (n j : Nat) (hx : x 1 1 = Int32.ofNat (n + 1)) (hj : j ≤ n) (hn : n < 12) (hf : pm_ff f) : pm_call pm_Tf sc (d + 3) 57 [pm_r 0, .inl 0, .inl (Int32.ofNat j)] (pm_u x w f) = some (some (.inl (Int32.ofNat n)), pm_u (pm_up x 1 1 (Int32.ofNat n)) w (pm_rmv f 0 j n)) := by
  have g1 : pm_call pm_Tf sc (d + 3) 57 [pm_r 0, .inl 0, .inl (Int32.ofNat j)] (pm_u x w f) = pm_ev (pm_call pm_Tf sc (d + 2)) sc 1 pm_c57 3 [(0, pm_r 0), (1, .inl 0), (2, .inl (Int32.ofNat j))] [.inl (Int32.ofNat j), .inl 0, pm_r 0] (pm_u x w f) := (pm_ev_iter [3] 5 _ _ _ _).trans rfl
  have g2 : pm_ev (pm_call pm_Tf sc (d + 2)) sc 1 pm_c57 3 [(0, pm_r 0), (1, .inl 0), (2, .inl (Int32.ofNat j))] [.inl (Int32.ofNat j), .inl 0, pm_r 0] (pm_u x w f) = pm_call1 (fun v u => pm_ev (pm_call pm_Tf sc (d + 2)) sc 1 pm_c57 6 [(0, pm_r 0), (1, .inl 0), (2, .inl (Int32.ofNat j))] (v.toList ++ []) u) none (pm_call pm_Tf sc (d + 2) 68 [pm_r 0, .inl 0, .inl (Int32.ofNat j)] (pm_u x w f)) := (pm_ev_step _ _ _ _).trans rfl
  have hu := uw0 x w f n j hx hj hn
  have g2' := z680 (sc := sc) d (Int32.ofNat j) x w f
  rw [hu] at g2'
  have g3 : pm_ev (pm_call pm_Tf sc (d + 2)) sc 1 pm_c57 6 [(0, pm_r 0), (1, .inl 0), (2, .inl (Int32.ofNat j))] ((some (pm_b true)).toList ++ []) (pm_u x w f) = pm_ev (pm_call pm_Tf sc (d + 2)) sc 1 pm_c57 13 [(0, pm_r 0), (1, .inl 0), (2, .inl (Int32.ofNat j))] [.inl 0, pm_r 0] (pm_u x w f) := (pm_ev_iter [13] 5 _ _ _ _).trans rfl
  have g4 : pm_ev (pm_call pm_Tf sc (d + 2)) sc 1 pm_c57 13 [(0, pm_r 0), (1, .inl 0), (2, .inl (Int32.ofNat j))] [.inl 0, pm_r 0] (pm_u x w f) = pm_call1 (fun v u => pm_ev (pm_call pm_Tf sc (d + 2)) sc 1 pm_c57 16 [(0, pm_r 0), (1, .inl 0), (2, .inl (Int32.ofNat j))] (v.toList ++ []) u) none (pm_call pm_Tf sc (d + 2) 67 [pm_r 0, .inl 0] (pm_u x w f)) := (pm_ev_step _ _ _ _).trans rfl
  refine g1.trans (g2.trans ((pm_call1_of g2').trans (g3.trans (g4.trans ((pm_call1_of (show pm_call pm_Tf sc (d + 2) 67 [pm_r 0, .inl 0] (pm_u x w f) = some (some (pm_r 29), pm_u x w f) from z670 (d + 2) x w f)).trans ?_)))))
  have g5 : pm_ev (pm_call pm_Tf sc (d + 2)) sc 1 pm_c57 16 [(0, pm_r 0), (1, .inl 0), (2, .inl (Int32.ofNat j))] ((some (pm_r 29)).toList ++ []) (pm_u x w f) = pm_ev (pm_call pm_Tf sc (d + 2)) sc 1 pm_c57 22 [(3, pm_r 1), (0, pm_r 0), (1, .inl 0), (2, .inl (Int32.ofNat j))] [.inl (Int32.ofNat j), pm_r 1] (pm_u x w f) := (pm_ev_iter [22] 10 _ _ _ _).trans rfl
  have g6 : pm_ev (pm_call pm_Tf sc (d + 2)) sc 1 pm_c57 22 [(3, pm_r 1), (0, pm_r 0), (1, .inl 0), (2, .inl (Int32.ofNat j))] [.inl (Int32.ofNat j), pm_r 1] (pm_u x w f) = pm_call1 (fun v u => pm_ev (pm_call pm_Tf sc (d + 2)) sc 1 pm_c57 25 [(3, pm_r 1), (0, pm_r 0), (1, .inl 0), (2, .inl (Int32.ofNat j))] (v.toList ++ []) u) none (pm_call pm_Tf sc (d + 2) 17 [pm_r 1, .inl (Int32.ofNat j)] (pm_u x w f)) := (pm_ev_step _ _ _ _).trans rfl
  refine g5.trans (g6.trans ((pm_call1_of (zrm0 (d + 2) x w f j n hx hj hn (fun i hi => pm_F0_c (hf i hi).1))).trans ?_))
  exact (pm_ev_iter [] 5 _ _ _ _).trans rfl
theorem zfrm0 {sc : pm_Sc} (d : Nat) (x : Nat → Nat → Int32) (w : Nat → Nat → Bool) (f : Nat → Nat → Nat) (n j : Nat) (hx : x 1 1 = Int32.ofNat (n + 1)) (hj : j ≤ n) (hn : n < 12) (hf : pm_ff f) (e0 : Int32) : pm_call pm_Tf sc (d + 3) 59 [pm_r 0, .inl 0, .inl (Int32.ofNat j), .inl e0] (pm_u x w f) = some (some (.inl (q4 (f 0 j) e0 x w f)), pm_u x w f) := by
  have g1 : pm_call pm_Tf sc (d + 3) 59 [pm_r 0, .inl 0, .inl (Int32.ofNat j), .inl e0] (pm_u x w f) = pm_ev (pm_call pm_Tf sc (d + 2)) sc 1 pm_c59 3 [(0, pm_r 0), (1, .inl 0), (2, .inl (Int32.ofNat j)), (3, .inl e0)] [.inl (Int32.ofNat j), .inl 0, pm_r 0] (pm_u x w f) := (pm_ev_iter [3] 5 _ _ _ _).trans rfl
  have g2 : pm_ev (pm_call pm_Tf sc (d + 2)) sc 1 pm_c59 3 [(0, pm_r 0), (1, .inl 0), (2, .inl (Int32.ofNat j)), (3, .inl e0)] [.inl (Int32.ofNat j), .inl 0, pm_r 0] (pm_u x w f) = pm_call1 (fun v u => pm_ev (pm_call pm_Tf sc (d + 2)) sc 1 pm_c59 6 [(0, pm_r 0), (1, .inl 0), (2, .inl (Int32.ofNat j)), (3, .inl e0)] (v.toList ++ []) u) none (pm_call pm_Tf sc (d + 2) 68 [pm_r 0, .inl 0, .inl (Int32.ofNat j)] (pm_u x w f)) := (pm_ev_step _ _ _ _).trans rfl
  have hu := uw0 x w f n j hx hj hn
  have g2' := z680 (sc := sc) d (Int32.ofNat j) x w f
  rw [hu] at g2'
  have g3 : pm_ev (pm_call pm_Tf sc (d + 2)) sc 1 pm_c59 6 [(0, pm_r 0), (1, .inl 0), (2, .inl (Int32.ofNat j)), (3, .inl e0)] ((some (pm_b true)).toList ++ []) (pm_u x w f) = pm_ev (pm_call pm_Tf sc (d + 2)) sc 1 pm_c59 11 [(0, pm_r 0), (1, .inl 0), (2, .inl (Int32.ofNat j)), (3, .inl e0)] [.inl 0, pm_r 0] (pm_u x w f) := (pm_ev_iter [11] 5 _ _ _ _).trans rfl
  have g4 : pm_ev (pm_call pm_Tf sc (d + 2)) sc 1 pm_c59 11 [(0, pm_r 0), (1, .inl 0), (2, .inl (Int32.ofNat j)), (3, .inl e0)] [.inl 0, pm_r 0] (pm_u x w f) = pm_call1 (fun v u => pm_ev (pm_call pm_Tf sc (d + 2)) sc 1 pm_c59 14 [(0, pm_r 0), (1, .inl 0), (2, .inl (Int32.ofNat j)), (3, .inl e0)] (v.toList ++ []) u) none (pm_call pm_Tf sc (d + 2) 67 [pm_r 0, .inl 0] (pm_u x w f)) := (pm_ev_step _ _ _ _).trans rfl
  refine g1.trans (g2.trans ((pm_call1_of g2').trans (g3.trans (g4.trans ((pm_call1_of (show pm_call pm_Tf sc (d + 2) 67 [pm_r 0, .inl 0] (pm_u x w f) = some (some (pm_r 29), pm_u x w f) from z670 (d + 2) x w f)).trans ?_)))))
  have hq := (hf j (by omega)).1
  have g5 : pm_ev (pm_call pm_Tf sc (d + 2)) sc 1 pm_c59 14 [(0, pm_r 0), (1, .inl 0), (2, .inl (Int32.ofNat j)), (3, .inl e0)] ((some (pm_r 29)).toList ++ []) (pm_u x w f) = pm_ev (pm_call pm_Tf sc (d + 2)) sc 1 pm_c59 23 [(0, pm_r 0), (1, .inl 0), (2, .inl (Int32.ofNat j)), (3, .inl e0)] [.inl e0, pm_r (f 0 j)] (pm_u x w f) := by
    rcases pm_lt12 (show j < 12 by omega) with rfl | rfl | rfl | rfl | rfl | rfl | rfl | rfl | rfl | rfl | rfl | rfl <;> exact (pm_ev_iter [23] 10 _ _ _ _).trans rfl
  have g6 : ∀ q, q ∈ pm_F0 → pm_ev (pm_call pm_Tf sc (d + 2)) sc 1 pm_c59 23 [(0, pm_r 0), (1, .inl 0), (2, .inl (Int32.ofNat j)), (3, .inl e0)] [.inl e0, pm_r q] (pm_u x w f) = pm_call1 (fun v u => pm_ev (pm_call pm_Tf sc (d + 2)) sc 1 pm_c59 26 [(0, pm_r 0), (1, .inl 0), (2, .inl (Int32.ofNat j)), (3, .inl e0)] (v.toList ++ []) u) none (pm_call pm_Tf sc (d + 2) 4 [pm_r q, .inl e0] (pm_u x w f)) := by
    intro q hq
    (simp only [pm_F0, List.mem_cons, List.not_mem_nil, or_false] at hq; rcases hq with rfl | rfl | rfl | rfl | rfl | rfl | rfl | rfl | rfl | rfl | rfl | rfl) <;> exact (pm_ev_step _ _ _ _).trans rfl
  refine g5.trans ((g6 (f 0 j) hq).trans ((pm_call1_of (z4 (d + 1) (f 0 j) e0 x w f (pm_FF (Or.inl hq)))).trans ?_))
  exact (pm_ev_iter [] 5 _ _ _ _).trans rfl
def ck1 (q : Nat) (x : Nat → Nat → Int32) (w : Nat → Nat → Bool) : Bool × (Nat → Nat → Int32) × (Nat → Nat → Bool) := if x 50 0 < x q 0 then (true, pm_cx x 50 q, pm_cw w 50 q) else (false, x, w)
theorem zck1 {sc : pm_Sc} (d : Nat) (x : Nat → Nat → Int32) (w : Nat → Nat → Bool) (f : Nat → Nat → Nat) (q : Nat) (hq : q ∈ pm_F1) : pm_call pm_Tf sc (d + 1) 24 [pm_r 48, pm_r q] (pm_u x w f) = some (some (pm_b (ck1 q x w).1), pm_u (ck1 q x w).2.1 (ck1 q x w).2.2 f) := by
  have h1 : pm_call pm_Tf sc (d + 1) 24 [pm_r 48, pm_r q] (pm_u x w f) = if x 50 0 < x q 0 then pm_ev (pm_call pm_Tf sc d) sc 2 pm_c24 21 [(0, pm_r 48), (1, pm_r q)] [pm_r q, pm_r 50] (pm_u x w f) else some (some (pm_b false), pm_u x w f) := by
    (simp only [pm_F1, List.mem_cons, List.not_mem_nil, or_false] at hq; rcases hq with rfl | rfl | rfl | rfl | rfl | rfl | rfl | rfl | rfl | rfl | rfl | rfl) <;> exact (pm_ev_iter [21] 20 _ _ _ _).trans rfl
  rw [h1]
  unfold ck1
  by_cases h : x 50 0 < x q 0
  · rw [if_pos h, if_pos h]
    have h2 : pm_ev (pm_call pm_Tf sc d) sc 2 pm_c24 21 [(0, pm_r 48), (1, pm_r q)] [pm_r q, pm_r 50] (pm_u x w f) = pm_call1 (fun v u => pm_ev (pm_call pm_Tf sc d) sc 2 pm_c24 24 [(0, pm_r 48), (1, pm_r q)] (v.toList ++ []) u) none (pm_call pm_Tf sc d 2 [pm_r 50, pm_r q] (pm_u x w f)) := (pm_ev_step _ _ _ _).trans rfl
    have hb := pm_F1_ne hq
    rw [h2, pm_call1_of (zcopy d x w f 50 q rfl (pm_F1_c hq) (by omega))]
    exact (pm_ev_iter [] 5 _ _ _ _).trans rfl
  · rw [if_neg h, if_neg h]
theorem lck1 (q : Nat) (x : Nat → Nat → Int32) (w : Nat → Nat → Bool) : ∀ aa, aa ≠ 50 → (ck1 q x w).2.1 aa = x aa ∧ (ck1 q x w).2.2 aa = w aa := by
  intro aa ha
  unfold ck1
  split
  · exact ⟨pm_cx_ne ha, pm_cw_ne ha⟩
  · exact ⟨rfl, rfl⟩
theorem uw1 (x : Nat → Nat → Int32) (w : Nat → Nat → Bool) (f : Nat → Nat → Nat) (n j : Nat) (hx : x 15 1 = Int32.ofNat (n + 1)) (hj : j ≤ n) (hn : n < 12) : q681 (Int32.ofNat j) x w f = true := by
  unfold q681
  rw [if_pos (show q69 1 x w f = true from rfl)]
  unfold q71
  rw [hx, show Int32.ofNat (n + 1) - 1 = Int32.ofNat n from nI_pred n, if_neg (show ¬ Int32.ofNat j < 0 from nI_pos (by omega)), if_neg (show ¬ Int32.ofNat n < Int32.ofNat j from nI_nlt hj (by omega))]
  rfl
theorem zdel1 {sc : pm_Sc} (d : Nat) (x : Nat → Nat → Int32) (w : Nat → Nat → Bool) (f : Nat → Nat → Nat) (n j : Nat) (hx : x 15 1 = Int32.ofNat (n + 1)) (hj : j ≤ n) (hn : n < 12) (hf : pm_ff f) : pm_call pm_Tf sc (d + 3) 56 [pm_r 0, .inl 1, .inl (Int32.ofNat j)] (pm_u x w f) = some (some (.inl (if (ck1 (f 1 j) x w).1 = true then 1 else 0)), pm_u (pm_up (ck1 (f 1 j) x w).2.1 15 1 (Int32.ofNat n)) (ck1 (f 1 j) x w).2.2 (pm_rmv f 1 j n)) := by
  have g1 : pm_call pm_Tf sc (d + 3) 56 [pm_r 0, .inl 1, .inl (Int32.ofNat j)] (pm_u x w f) = pm_ev (pm_call pm_Tf sc (d + 2)) sc 1 pm_c56 3 [(0, pm_r 0), (1, .inl 1), (2, .inl (Int32.ofNat j))] [.inl (Int32.ofNat j), .inl 1, pm_r 0] (pm_u x w f) := (pm_ev_iter [3] 5 _ _ _ _).trans rfl
  have g2 : pm_ev (pm_call pm_Tf sc (d + 2)) sc 1 pm_c56 3 [(0, pm_r 0), (1, .inl 1), (2, .inl (Int32.ofNat j))] [.inl (Int32.ofNat j), .inl 1, pm_r 0] (pm_u x w f) = pm_call1 (fun v u => pm_ev (pm_call pm_Tf sc (d + 2)) sc 1 pm_c56 6 [(0, pm_r 0), (1, .inl 1), (2, .inl (Int32.ofNat j))] (v.toList ++ []) u) none (pm_call pm_Tf sc (d + 2) 68 [pm_r 0, .inl 1, .inl (Int32.ofNat j)] (pm_u x w f)) := (pm_ev_step _ _ _ _).trans rfl
  have hu := uw1 x w f n j hx hj hn
  have g2' := z681 (sc := sc) d (Int32.ofNat j) x w f
  rw [hu] at g2'
  have g3 : pm_ev (pm_call pm_Tf sc (d + 2)) sc 1 pm_c56 6 [(0, pm_r 0), (1, .inl 1), (2, .inl (Int32.ofNat j))] ((some (pm_b true)).toList ++ []) (pm_u x w f) = pm_ev (pm_call pm_Tf sc (d + 2)) sc 1 pm_c56 13 [(0, pm_r 0), (1, .inl 1), (2, .inl (Int32.ofNat j))] [.inl 1, pm_r 0] (pm_u x w f) := (pm_ev_iter [13] 5 _ _ _ _).trans rfl
  have g4 : pm_ev (pm_call pm_Tf sc (d + 2)) sc 1 pm_c56 13 [(0, pm_r 0), (1, .inl 1), (2, .inl (Int32.ofNat j))] [.inl 1, pm_r 0] (pm_u x w f) = pm_call1 (fun v u => pm_ev (pm_call pm_Tf sc (d + 2)) sc 1 pm_c56 16 [(0, pm_r 0), (1, .inl 1), (2, .inl (Int32.ofNat j))] (v.toList ++ []) u) none (pm_call pm_Tf sc (d + 2) 67 [pm_r 0, .inl 1] (pm_u x w f)) := (pm_ev_step _ _ _ _).trans rfl
  refine g1.trans (g2.trans ((pm_call1_of g2').trans (g3.trans (g4.trans ((pm_call1_of (show pm_call pm_Tf sc (d + 2) 67 [pm_r 0, .inl 1] (pm_u x w f) = some (some (pm_r 48), pm_u x w f) from z671 (d + 2) x w f)).trans ?_)))))
  have hq := (hf j (by omega)).2
  have g5 : pm_ev (pm_call pm_Tf sc (d + 2)) sc 1 pm_c56 16 [(0, pm_r 0), (1, .inl 1), (2, .inl (Int32.ofNat j))] ((some (pm_r 48)).toList ++ []) (pm_u x w f) = pm_ev (pm_call pm_Tf sc (d + 2)) sc 1 pm_c56 27 [(3, pm_r 48), (0, pm_r 0), (1, .inl 1), (2, .inl (Int32.ofNat j))] [pm_r (f 1 j), pm_r 48] (pm_u x w f) := by
    rcases pm_lt12 (show j < 12 by omega) with rfl | rfl | rfl | rfl | rfl | rfl | rfl | rfl | rfl | rfl | rfl | rfl <;> exact (pm_ev_iter [27] 10 _ _ _ _).trans rfl
  have hcq := pm_F1_c hq
  have g6 : pm_ev (pm_call pm_Tf sc (d + 2)) sc 1 pm_c56 27 [(3, pm_r 48), (0, pm_r 0), (1, .inl 1), (2, .inl (Int32.ofNat j))] [pm_r (f 1 j), pm_r 48] (pm_u x w f) = pm_call1 (fun v u => pm_ev (pm_call pm_Tf sc (d + 2)) sc 1 pm_c56 30 [(3, pm_r 48), (0, pm_r 0), (1, .inl 1), (2, .inl (Int32.ofNat j))] (v.toList ++ []) u) none (pm_call pm_Tf sc (d + 2) 24 [pm_r 48, pm_r (f 1 j)] (pm_u x w f)) := (pm_ev_step _ _ _ _).trans rfl
  refine g5.trans (g6.trans ((pm_call1_of (zck1 (d + 1) x w f (f 1 j) hq)).trans ?_))
  have hx2 : (ck1 (f 1 j) x w).2.1 15 1 = Int32.ofNat (n + 1) := by rw [(lck1 (f 1 j) x w 15 (by decide)).1]; exact hx
  generalize ck1 (f 1 j) x w = t at hx2 ⊢
  have g7 : pm_ev (pm_call pm_Tf sc (d + 2)) sc 1 pm_c56 30 [(3, pm_r 48), (0, pm_r 0), (1, .inl 1), (2, .inl (Int32.ofNat j))] ((some (pm_b t.1)).toList ++ []) (pm_u t.2.1 t.2.2 f) = pm_ev (pm_call pm_Tf sc (d + 2)) sc 1 pm_c56 37 ((4, pm_b t.1) :: [(3, pm_r 48), (0, pm_r 0), (1, .inl 1), (2, .inl (Int32.ofNat j))]) [.inl (Int32.ofNat j), pm_r 15] (pm_u t.2.1 t.2.2 f) := (pm_ev_iter [37] 10 _ _ _ _).trans rfl
  have g8 : pm_ev (pm_call pm_Tf sc (d + 2)) sc 1 pm_c56 37 ((4, pm_b t.1) :: [(3, pm_r 48), (0, pm_r 0), (1, .inl 1), (2, .inl (Int32.ofNat j))]) [.inl (Int32.ofNat j), pm_r 15] (pm_u t.2.1 t.2.2 f) = pm_call1 (fun v u => pm_ev (pm_call pm_Tf sc (d + 2)) sc 1 pm_c56 40 ((4, pm_b t.1) :: [(3, pm_r 48), (0, pm_r 0), (1, .inl 1), (2, .inl (Int32.ofNat j))]) (v.toList ++ []) u) none (pm_call pm_Tf sc (d + 2) 17 [pm_r 15, .inl (Int32.ofNat j)] (pm_u t.2.1 t.2.2 f)) := (pm_ev_step _ _ _ _).trans rfl
  refine g7.trans (g8.trans ((pm_call1_of (zrm1 (d + 2) t.2.1 t.2.2 f j n hx2 hj hn (fun i hi => pm_F1_c (hf i hi).2))).trans ?_))
  have g9 : ∀ (y : Nat → Nat → Int32) (g : Nat → Nat → Nat), pm_ev (pm_call pm_Tf sc (d + 2)) sc 1 pm_c56 40 ((4, pm_b t.1) :: [(3, pm_r 48), (0, pm_r 0), (1, .inl 1), (2, .inl (Int32.ofNat j))]) ((none : Option pm_V).toList ++ []) (pm_u y t.2.2 g) = pm_ev (pm_call pm_Tf sc (d + 2)) sc 1 pm_c56 42 ((4, pm_b t.1) :: [(3, pm_r 48), (0, pm_r 0), (1, .inl 1), (2, .inl (Int32.ofNat j))]) [pm_b t.1] (pm_u y t.2.2 g) := fun y g => (pm_ev_iter [42] 10 _ _ _ _).trans rfl
  have g10 : ∀ (y : Nat → Nat → Int32) (g : Nat → Nat → Nat), pm_ev (pm_call pm_Tf sc (d + 2)) sc 1 pm_c56 42 ((4, pm_b t.1) :: [(3, pm_r 48), (0, pm_r 0), (1, .inl 1), (2, .inl (Int32.ofNat j))]) [pm_b t.1] (pm_u y t.2.2 g) = pm_call1 (fun v u => pm_ev (pm_call pm_Tf sc (d + 2)) sc 1 pm_c56 45 ((4, pm_b t.1) :: [(3, pm_r 48), (0, pm_r 0), (1, .inl 1), (2, .inl (Int32.ofNat j))]) (v.toList ++ []) u) none (pm_call pm_Tf sc (d + 2) 72 [pm_b t.1] (pm_u y t.2.2 g)) := fun y g => (pm_ev_step _ _ _ _).trans rfl
  refine (g9 _ _).trans ((g10 _ _).trans ((pm_call1_of (z72 (d + 2) t.1 _ t.2.2 _)).trans ?_))
  exact (pm_ev_iter [] 5 _ _ _ _).trans rfl
theorem zdrp1 {sc : pm_Sc} (d : Nat) (x : Nat → Nat → Int32) (w : Nat → Nat → Bool) (f : Nat → Nat → Nat) (n j : Nat) (hx : x 15 1 = Int32.ofNat (n + 1)) (hj : j ≤ n) (hn : n < 12) (hf : pm_ff f) : pm_call pm_Tf sc (d + 3) 57 [pm_r 0, .inl 1, .inl (Int32.ofNat j)] (pm_u x w f) = some (some (.inl (Int32.ofNat n)), pm_u (pm_up x 15 1 (Int32.ofNat n)) w (pm_rmv f 1 j n)) := by
  have g1 : pm_call pm_Tf sc (d + 3) 57 [pm_r 0, .inl 1, .inl (Int32.ofNat j)] (pm_u x w f) = pm_ev (pm_call pm_Tf sc (d + 2)) sc 1 pm_c57 3 [(0, pm_r 0), (1, .inl 1), (2, .inl (Int32.ofNat j))] [.inl (Int32.ofNat j), .inl 1, pm_r 0] (pm_u x w f) := (pm_ev_iter [3] 5 _ _ _ _).trans rfl
  have g2 : pm_ev (pm_call pm_Tf sc (d + 2)) sc 1 pm_c57 3 [(0, pm_r 0), (1, .inl 1), (2, .inl (Int32.ofNat j))] [.inl (Int32.ofNat j), .inl 1, pm_r 0] (pm_u x w f) = pm_call1 (fun v u => pm_ev (pm_call pm_Tf sc (d + 2)) sc 1 pm_c57 6 [(0, pm_r 0), (1, .inl 1), (2, .inl (Int32.ofNat j))] (v.toList ++ []) u) none (pm_call pm_Tf sc (d + 2) 68 [pm_r 0, .inl 1, .inl (Int32.ofNat j)] (pm_u x w f)) := (pm_ev_step _ _ _ _).trans rfl
  have hu := uw1 x w f n j hx hj hn
  have g2' := z681 (sc := sc) d (Int32.ofNat j) x w f
  rw [hu] at g2'
  have g3 : pm_ev (pm_call pm_Tf sc (d + 2)) sc 1 pm_c57 6 [(0, pm_r 0), (1, .inl 1), (2, .inl (Int32.ofNat j))] ((some (pm_b true)).toList ++ []) (pm_u x w f) = pm_ev (pm_call pm_Tf sc (d + 2)) sc 1 pm_c57 13 [(0, pm_r 0), (1, .inl 1), (2, .inl (Int32.ofNat j))] [.inl 1, pm_r 0] (pm_u x w f) := (pm_ev_iter [13] 5 _ _ _ _).trans rfl
  have g4 : pm_ev (pm_call pm_Tf sc (d + 2)) sc 1 pm_c57 13 [(0, pm_r 0), (1, .inl 1), (2, .inl (Int32.ofNat j))] [.inl 1, pm_r 0] (pm_u x w f) = pm_call1 (fun v u => pm_ev (pm_call pm_Tf sc (d + 2)) sc 1 pm_c57 16 [(0, pm_r 0), (1, .inl 1), (2, .inl (Int32.ofNat j))] (v.toList ++ []) u) none (pm_call pm_Tf sc (d + 2) 67 [pm_r 0, .inl 1] (pm_u x w f)) := (pm_ev_step _ _ _ _).trans rfl
  refine g1.trans (g2.trans ((pm_call1_of g2').trans (g3.trans (g4.trans ((pm_call1_of (show pm_call pm_Tf sc (d + 2) 67 [pm_r 0, .inl 1] (pm_u x w f) = some (some (pm_r 48), pm_u x w f) from z671 (d + 2) x w f)).trans ?_)))))
  have g5 : pm_ev (pm_call pm_Tf sc (d + 2)) sc 1 pm_c57 16 [(0, pm_r 0), (1, .inl 1), (2, .inl (Int32.ofNat j))] ((some (pm_r 48)).toList ++ []) (pm_u x w f) = pm_ev (pm_call pm_Tf sc (d + 2)) sc 1 pm_c57 22 [(3, pm_r 15), (0, pm_r 0), (1, .inl 1), (2, .inl (Int32.ofNat j))] [.inl (Int32.ofNat j), pm_r 15] (pm_u x w f) := (pm_ev_iter [22] 10 _ _ _ _).trans rfl
  have g6 : pm_ev (pm_call pm_Tf sc (d + 2)) sc 1 pm_c57 22 [(3, pm_r 15), (0, pm_r 0), (1, .inl 1), (2, .inl (Int32.ofNat j))] [.inl (Int32.ofNat j), pm_r 15] (pm_u x w f) = pm_call1 (fun v u => pm_ev (pm_call pm_Tf sc (d + 2)) sc 1 pm_c57 25 [(3, pm_r 15), (0, pm_r 0), (1, .inl 1), (2, .inl (Int32.ofNat j))] (v.toList ++ []) u) none (pm_call pm_Tf sc (d + 2) 17 [pm_r 15, .inl (Int32.ofNat j)] (pm_u x w f)) := (pm_ev_step _ _ _ _).trans rfl
  refine g5.trans (g6.trans ((pm_call1_of (zrm1 (d + 2) x w f j n hx hj hn (fun i hi => pm_F1_c (hf i hi).2))).trans ?_))
  exact (pm_ev_iter [] 5 _ _ _ _).trans rfl
theorem zfrm1 {sc : pm_Sc} (d : Nat) (x : Nat → Nat → Int32) (w : Nat → Nat → Bool) (f : Nat → Nat → Nat) (n j : Nat) (hx : x 15 1 = Int32.ofNat (n + 1)) (hj : j ≤ n) (hn : n < 12) (hf : pm_ff f) (e0 : Int32) : pm_call pm_Tf sc (d + 3) 59 [pm_r 0, .inl 1, .inl (Int32.ofNat j), .inl e0] (pm_u x w f) = some (some (.inl (q4 (f 1 j) e0 x w f)), pm_u x w f) := by
  have g1 : pm_call pm_Tf sc (d + 3) 59 [pm_r 0, .inl 1, .inl (Int32.ofNat j), .inl e0] (pm_u x w f) = pm_ev (pm_call pm_Tf sc (d + 2)) sc 1 pm_c59 3 [(0, pm_r 0), (1, .inl 1), (2, .inl (Int32.ofNat j)), (3, .inl e0)] [.inl (Int32.ofNat j), .inl 1, pm_r 0] (pm_u x w f) := (pm_ev_iter [3] 5 _ _ _ _).trans rfl
  have g2 : pm_ev (pm_call pm_Tf sc (d + 2)) sc 1 pm_c59 3 [(0, pm_r 0), (1, .inl 1), (2, .inl (Int32.ofNat j)), (3, .inl e0)] [.inl (Int32.ofNat j), .inl 1, pm_r 0] (pm_u x w f) = pm_call1 (fun v u => pm_ev (pm_call pm_Tf sc (d + 2)) sc 1 pm_c59 6 [(0, pm_r 0), (1, .inl 1), (2, .inl (Int32.ofNat j)), (3, .inl e0)] (v.toList ++ []) u) none (pm_call pm_Tf sc (d + 2) 68 [pm_r 0, .inl 1, .inl (Int32.ofNat j)] (pm_u x w f)) := (pm_ev_step _ _ _ _).trans rfl
  have hu := uw1 x w f n j hx hj hn
  have g2' := z681 (sc := sc) d (Int32.ofNat j) x w f
  rw [hu] at g2'
  have g3 : pm_ev (pm_call pm_Tf sc (d + 2)) sc 1 pm_c59 6 [(0, pm_r 0), (1, .inl 1), (2, .inl (Int32.ofNat j)), (3, .inl e0)] ((some (pm_b true)).toList ++ []) (pm_u x w f) = pm_ev (pm_call pm_Tf sc (d + 2)) sc 1 pm_c59 11 [(0, pm_r 0), (1, .inl 1), (2, .inl (Int32.ofNat j)), (3, .inl e0)] [.inl 1, pm_r 0] (pm_u x w f) := (pm_ev_iter [11] 5 _ _ _ _).trans rfl
  have g4 : pm_ev (pm_call pm_Tf sc (d + 2)) sc 1 pm_c59 11 [(0, pm_r 0), (1, .inl 1), (2, .inl (Int32.ofNat j)), (3, .inl e0)] [.inl 1, pm_r 0] (pm_u x w f) = pm_call1 (fun v u => pm_ev (pm_call pm_Tf sc (d + 2)) sc 1 pm_c59 14 [(0, pm_r 0), (1, .inl 1), (2, .inl (Int32.ofNat j)), (3, .inl e0)] (v.toList ++ []) u) none (pm_call pm_Tf sc (d + 2) 67 [pm_r 0, .inl 1] (pm_u x w f)) := (pm_ev_step _ _ _ _).trans rfl
  refine g1.trans (g2.trans ((pm_call1_of g2').trans (g3.trans (g4.trans ((pm_call1_of (show pm_call pm_Tf sc (d + 2) 67 [pm_r 0, .inl 1] (pm_u x w f) = some (some (pm_r 48), pm_u x w f) from z671 (d + 2) x w f)).trans ?_)))))
  have hq := (hf j (by omega)).2
  have g5 : pm_ev (pm_call pm_Tf sc (d + 2)) sc 1 pm_c59 14 [(0, pm_r 0), (1, .inl 1), (2, .inl (Int32.ofNat j)), (3, .inl e0)] ((some (pm_r 48)).toList ++ []) (pm_u x w f) = pm_ev (pm_call pm_Tf sc (d + 2)) sc 1 pm_c59 23 [(0, pm_r 0), (1, .inl 1), (2, .inl (Int32.ofNat j)), (3, .inl e0)] [.inl e0, pm_r (f 1 j)] (pm_u x w f) := by
    rcases pm_lt12 (show j < 12 by omega) with rfl | rfl | rfl | rfl | rfl | rfl | rfl | rfl | rfl | rfl | rfl | rfl <;> exact (pm_ev_iter [23] 10 _ _ _ _).trans rfl
  have g6 : ∀ q, q ∈ pm_F1 → pm_ev (pm_call pm_Tf sc (d + 2)) sc 1 pm_c59 23 [(0, pm_r 0), (1, .inl 1), (2, .inl (Int32.ofNat j)), (3, .inl e0)] [.inl e0, pm_r q] (pm_u x w f) = pm_call1 (fun v u => pm_ev (pm_call pm_Tf sc (d + 2)) sc 1 pm_c59 26 [(0, pm_r 0), (1, .inl 1), (2, .inl (Int32.ofNat j)), (3, .inl e0)] (v.toList ++ []) u) none (pm_call pm_Tf sc (d + 2) 4 [pm_r q, .inl e0] (pm_u x w f)) := by
    intro q hq
    (simp only [pm_F1, List.mem_cons, List.not_mem_nil, or_false] at hq; rcases hq with rfl | rfl | rfl | rfl | rfl | rfl | rfl | rfl | rfl | rfl | rfl | rfl) <;> exact (pm_ev_step _ _ _ _).trans rfl
  refine g5.trans ((g6 (f 1 j) hq).trans ((pm_call1_of (z4 (d + 1) (f 1 j) e0 x w f (pm_FF (Or.inr hq)))).trans ?_))
  exact (pm_ev_iter [] 5 _ _ _ _).trans rfl

/-! A frame doubled in its line. -/
theorem db_b0 {c : Nat → List pm_V → pm_S → Option pm_Rs} {sc : pm_Sc} (x : Nat → Nat → Int32) (w : Nat → Nat → Bool) (f : Nat → Nat → Nat) (i k g : Nat) (hi : i < 11) : pm_ev c sc 0 pm_c18 22 [(3, .inl (Int32.ofNat (i + 1))), (2, pm_r g), (0, pm_r 1), (1, .inl (Int32.ofNat k))] [] (pm_u x w f) = if Int32.ofNat (i + 1) ≤ Int32.ofNat k + 1 then pm_ev c sc 0 pm_c18 49 [(3, .inl (Int32.ofNat (i + 1))), (2, pm_r g), (0, pm_r 1), (1, .inl (Int32.ofNat k))] [] (pm_u x w f) else pm_ev c sc 0 pm_c18 42 [(3, .inl (Int32.ofNat (i + 1))), (2, pm_r g), (0, pm_r 1), (1, .inl (Int32.ofNat k))] [pm_r (f 0 i), .inl (Int32.ofNat (i + 1)), pm_r 2] (pm_u x w f) := by
  rcases pm_lt11 hi with rfl | rfl | rfl | rfl | rfl | rfl | rfl | rfl | rfl | rfl | rfl <;> exact (pm_ev_iter [49, 42] 60 _ _ _ _).trans rfl
theorem db_c0 {c : Nat → List pm_V → pm_S → Option pm_Rs} {sc : pm_Sc} (x : Nat → Nat → Int32) (w : Nat → Nat → Bool) (f : Nat → Nat → Nat) (i k g q : Nat) (hi : i < 11) (hq : pm_cls 85 q = some 1) : pm_ev c sc 0 pm_c18 42 [(3, .inl (Int32.ofNat (i + 1))), (2, pm_r g), (0, pm_r 1), (1, .inl (Int32.ofNat k))] [pm_r q, .inl (Int32.ofNat (i + 1)), pm_r 2] (pm_u x w f) = pm_ev c sc 0 pm_c18 22 [(3, .inl (Int32.ofNat i)), (2, pm_r g), (0, pm_r 1), (1, .inl (Int32.ofNat k))] [] (pm_u x w (pm_up f 0 (i + 1) q)) := by
  rw [pm_ev_step]
  refine (pm_asta_of (u := pm_u x w f) (len := 12) rfl hq (pm_ib_of (by omega) (by decide))).trans ?_
  rw [show (Int32.ofNat (i + 1)).toNatClampNeg = i + 1 from nI_clamp (by omega), show pm_up (pm_u x w f).2.2.2 2 (i + 1) (some q) = pm_R (pm_up f 0 (i + 1) q) from pm_R_up0 (by omega)]
  rcases pm_lt11 hi with rfl | rfl | rfl | rfl | rfl | rfl | rfl | rfl | rfl | rfl | rfl <;> exact (pm_ev_iter [22] 5 _ _ _ _).trans rfl
theorem db_d0 {c : Nat → List pm_V → pm_S → Option pm_Rs} {sc : pm_Sc} (x : Nat → Nat → Int32) (w : Nat → Nat → Bool) (f : Nat → Nat → Nat) (k g : Nat) (i : Int32) (hk : k < 11) (hq : pm_cls 85 g = some 1) : pm_ev c sc 0 pm_c18 49 [(3, .inl (i)), (2, pm_r g), (0, pm_r 1), (1, .inl (Int32.ofNat k))] [] (pm_u x w f) = some (none, pm_u x w (pm_up f 0 (k + 1) g)) := by
  have h1 : pm_ev c sc 0 pm_c18 49 [(3, .inl (i)), (2, pm_r g), (0, pm_r 1), (1, .inl (Int32.ofNat k))] [] (pm_u x w f) = pm_ev c sc 0 pm_c18 57 [(3, .inl (i)), (2, pm_r g), (0, pm_r 1), (1, .inl (Int32.ofNat k))] [pm_r g, .inl (Int32.ofNat k + 1), pm_r 2] (pm_u x w f) := (pm_ev_iter [57] 60 _ _ _ _).trans rfl
  rw [h1, show Int32.ofNat k + 1 = Int32.ofNat (k + 1) from nI_1 k, pm_ev_step]
  refine (pm_asta_of (u := pm_u x w f) (len := 12) rfl hq (pm_ib_of (by omega) (by decide))).trans ?_
  rw [show (Int32.ofNat (k + 1)).toNatClampNeg = k + 1 from nI_clamp (by omega), show pm_up (pm_u x w f).2.2.2 2 (k + 1) (some g) = pm_R (pm_up f 0 (k + 1) g) from pm_R_up0 (by omega)]
  exact (pm_ev_iter [] 3 _ _ _ _).trans rfl
theorem db_l0 {c : Nat → List pm_V → pm_S → Option pm_Rs} {sc : pm_Sc} (x : Nat → Nat → Int32) (w : Nat → Nat → Bool) (f : Nat → Nat → Nat) (k n : Nat) (hk : k < n) (hn : n < 12) (hf : ∀ j, j < 12 → pm_cls 85 (f 0 j) = some 1) : ∀ (m i : Nat), i = k + m → i + 1 ≤ n → pm_ev c sc 0 pm_c18 22 [(3, .inl (Int32.ofNat (i + 1))), (2, pm_r (f 0 n)), (0, pm_r 1), (1, .inl (Int32.ofNat k))] [] (pm_u x w (pm_shr f 0 (i + 1) n)) = some (none, pm_u x w (pm_dbl f 0 k n))
  | 0, i, hm, hi => by
    have e : i = k := by omega
    subst e
    have hle : Int32.ofNat (i + 1) ≤ Int32.ofNat i + 1 := by rw [show Int32.ofNat i + 1 = Int32.ofNat (i + 1) from nI_1 i]; exact nI_le (Nat.le_refl _) (by omega)
    rw [db_b0 x w _ i i _ (by omega), if_pos hle, db_d0 x w _ i _ _ (by omega) (hf n hn), pm_shr_e]
  | m + 1, i, hm, hi => by
    have hlt : ¬ Int32.ofNat (i + 1) ≤ Int32.ofNat k + 1 := by rw [show Int32.ofNat k + 1 = Int32.ofNat (k + 1) from nI_1 k]; exact nI_ge (by omega) (by omega)
    have hcl : pm_cls 85 (pm_shr f 0 (i + 1) n 0 i) = some 1 := by
      unfold pm_shr
      rw [if_neg (by omega)]
      exact hf _ (by omega)
    rw [db_b0 x w _ i k _ (by omega), if_neg hlt, db_c0 x w _ i k _ _ (by omega) hcl, pm_shr_s f 0 i n hi]
    obtain ⟨i', rfl⟩ : ∃ i', i = i' + 1 := ⟨i - 1, by omega⟩
    exact db_l0 x w f k n hk hn hf m i' (by omega) (by omega)
theorem zdb0 {sc : pm_Sc} (d : Nat) (x : Nat → Nat → Int32) (w : Nat → Nat → Bool) (f : Nat → Nat → Nat) (k n : Nat) (hx : x 1 1 = Int32.ofNat n) (hk : k < n) (hn : n < 12) (hf : pm_ff f) (hij : f 0 k ≠ f 0 n) : pm_call pm_Tf sc (d + 1) 18 [pm_r 1, .inl (Int32.ofNat k)] (pm_u x w f) = some (none, pm_u (pm_cx (pm_up x 1 1 (Int32.ofNat (n + 1))) (f 0 n) (f 0 k)) (pm_cw w (f 0 n) (f 0 k)) (pm_dbl f 0 k n)) := by
  have h1 : pm_call pm_Tf sc (d + 1) 18 [pm_r 1, .inl (Int32.ofNat k)] (pm_u x w f) = pm_ev (pm_call pm_Tf sc d) sc 0 pm_c18 1 [(0, pm_r 1), (1, .inl (Int32.ofNat k))] [pm_r 1] (pm_u x w f) := (pm_ev_iter [1] 3 _ _ _ _).trans rfl
  have h2 : pm_ev (pm_call pm_Tf sc d) sc 0 pm_c18 1 [(0, pm_r 1), (1, .inl (Int32.ofNat k))] [pm_r 1] (pm_u x w f) = pm_call1 (fun v u => pm_ev (pm_call pm_Tf sc d) sc 0 pm_c18 4 [(0, pm_r 1), (1, .inl (Int32.ofNat k))] (v.toList ++ []) u) none (pm_call pm_Tf sc d 16 [pm_r 1] (pm_u x w f)) := (pm_ev_step _ _ _ _).trans rfl
  refine h1.trans (h2.trans ((pm_call1_of (zlen0 d x w f n hx hn)).trans ?_))
  have hq1 := (hf n hn).1
  have hq2 := (hf k (by omega)).1
  have hb1 := pm_F0_ne hq1
  have h3 : ∀ (g : Nat) (y : Nat → Nat → Int32), pm_ev (pm_call pm_Tf sc d) sc 0 pm_c18 4 [(0, pm_r 1), (1, .inl (Int32.ofNat k))] ((some (pm_r g)).toList ++ []) (pm_u y w f) = pm_ev (pm_call pm_Tf sc d) sc 0 pm_c18 12 [(2, pm_r g), (0, pm_r 1), (1, .inl (Int32.ofNat k))] [pm_r (f 0 k), pm_r g] (pm_u y w f) := by
    intro g y
    rcases pm_lt12 (show k < 12 by omega) with rfl | rfl | rfl | rfl | rfl | rfl | rfl | rfl | rfl | rfl | rfl | rfl <;> exact (pm_ev_iter [12] 10 _ _ _ _).trans rfl
  have h4 : ∀ (g : Nat) (q2 : Nat) (y : Nat → Nat → Int32), g ∈ pm_F0 → pm_ev (pm_call pm_Tf sc d) sc 0 pm_c18 12 [(2, pm_r g), (0, pm_r 1), (1, .inl (Int32.ofNat k))] [pm_r q2, pm_r g] (pm_u y w f) = pm_call1 (fun v u => pm_ev (pm_call pm_Tf sc d) sc 0 pm_c18 15 [(2, pm_r g), (0, pm_r 1), (1, .inl (Int32.ofNat k))] (v.toList ++ []) u) none (pm_call pm_Tf sc d 2 [pm_r g, pm_r q2] (pm_u y w f)) := by
    intro g q2 y hq
    (simp only [pm_F0, List.mem_cons, List.not_mem_nil, or_false] at hq; rcases hq with rfl | rfl | rfl | rfl | rfl | rfl | rfl | rfl | rfl | rfl | rfl | rfl) <;> exact (pm_ev_step _ _ _ _).trans rfl
  refine (h3 _ _).trans ((h4 _ _ _ hq1).trans ((pm_call1_of (zcopy d (pm_up x 1 1 (Int32.ofNat (n + 1))) w f (f 0 n) (f 0 k) (pm_F0_c hq1) (pm_F0_c hq2) hij)).trans ?_))
  have hc2 : pm_cx (pm_up x 1 1 (Int32.ofNat (n + 1))) (f 0 n) (f 0 k) 1 1 = Int32.ofNat (n + 1) := by rw [pm_cx_ne (by omega), pm_up_at, if_pos rfl]
  have hF := fun j hj => pm_F0_c (hf j hj).1
  revert hc2
  generalize pm_cx (pm_up x 1 1 (Int32.ofNat (n + 1))) (f 0 n) (f 0 k) = y
  generalize pm_cw w (f 0 n) (f 0 k) = z
  intro hc2
  have h5 : pm_ev (pm_call pm_Tf sc d) sc 0 pm_c18 15 [(2, pm_r (f 0 n)), (0, pm_r 1), (1, .inl (Int32.ofNat k))] ((none : Option pm_V).toList ++ []) (pm_u y z f) = pm_ev (pm_call pm_Tf sc d) sc 0 pm_c18 22 [(3, .inl (y 1 1 - 1)), (2, pm_r (f 0 n)), (0, pm_r 1), (1, .inl (Int32.ofNat k))] [] (pm_u y z f) := (pm_ev_iter [22] 10 _ _ _ _).trans rfl
  refine h5.trans ?_
  rw [hc2, show Int32.ofNat (n + 1) - 1 = Int32.ofNat n from nI_pred n]
  obtain ⟨n', rfl⟩ : ∃ n', n = n' + 1 := ⟨n - 1, by omega⟩
  have h6 := db_l0 (c := pm_call pm_Tf sc d) (sc := sc) y z f k (n' + 1) hk hn hF (n' - k) n' (by omega) (Nat.le_refl _)
  rw [pm_shr_0] at h6
  exact h6
theorem ztwf0 {sc : pm_Sc} (d : Nat) (x : Nat → Nat → Int32) (w : Nat → Nat → Bool) (f : Nat → Nat → Nat) (n j : Nat) (hx : x 1 1 = Int32.ofNat (n + 1)) (hj : j ≤ n) (hn : n = 11) : pm_call pm_Tf sc (d + 3) 58 [pm_r 0, .inl 0, .inl (Int32.ofNat j)] (pm_u x w f) = some (some (.inl (-1)), pm_u x w f) := by
  have hn0 := hn
  have hn : n < 12 := by omega
  have g1 : pm_call pm_Tf sc (d + 3) 58 [pm_r 0, .inl 0, .inl (Int32.ofNat j)] (pm_u x w f) = pm_ev (pm_call pm_Tf sc (d + 2)) sc 1 pm_c58 3 [(0, pm_r 0), (1, .inl 0), (2, .inl (Int32.ofNat j))] [.inl (Int32.ofNat j), .inl 0, pm_r 0] (pm_u x w f) := (pm_ev_iter [3] 5 _ _ _ _).trans rfl
  have g2 : pm_ev (pm_call pm_Tf sc (d + 2)) sc 1 pm_c58 3 [(0, pm_r 0), (1, .inl 0), (2, .inl (Int32.ofNat j))] [.inl (Int32.ofNat j), .inl 0, pm_r 0] (pm_u x w f) = pm_call1 (fun v u => pm_ev (pm_call pm_Tf sc (d + 2)) sc 1 pm_c58 6 [(0, pm_r 0), (1, .inl 0), (2, .inl (Int32.ofNat j))] (v.toList ++ []) u) none (pm_call pm_Tf sc (d + 2) 68 [pm_r 0, .inl 0, .inl (Int32.ofNat j)] (pm_u x w f)) := (pm_ev_step _ _ _ _).trans rfl
  have hu := uw0 x w f n j hx hj hn
  have g2' := z680 (sc := sc) d (Int32.ofNat j) x w f
  rw [hu] at g2'
  have g3 : pm_ev (pm_call pm_Tf sc (d + 2)) sc 1 pm_c58 6 [(0, pm_r 0), (1, .inl 0), (2, .inl (Int32.ofNat j))] ((some (pm_b true)).toList ++ []) (pm_u x w f) = pm_ev (pm_call pm_Tf sc (d + 2)) sc 1 pm_c58 13 [(0, pm_r 0), (1, .inl 0), (2, .inl (Int32.ofNat j))] [.inl 0, pm_r 0] (pm_u x w f) := (pm_ev_iter [13] 5 _ _ _ _).trans rfl
  have g4 : pm_ev (pm_call pm_Tf sc (d + 2)) sc 1 pm_c58 13 [(0, pm_r 0), (1, .inl 0), (2, .inl (Int32.ofNat j))] [.inl 0, pm_r 0] (pm_u x w f) = pm_call1 (fun v u => pm_ev (pm_call pm_Tf sc (d + 2)) sc 1 pm_c58 16 [(0, pm_r 0), (1, .inl 0), (2, .inl (Int32.ofNat j))] (v.toList ++ []) u) none (pm_call pm_Tf sc (d + 2) 67 [pm_r 0, .inl 0] (pm_u x w f)) := (pm_ev_step _ _ _ _).trans rfl
  refine g1.trans (g2.trans ((pm_call1_of g2').trans (g3.trans (g4.trans ((pm_call1_of (show pm_call pm_Tf sc (d + 2) 67 [pm_r 0, .inl 0] (pm_u x w f) = some (some (pm_r 29), pm_u x w f) from z670 (d + 2) x w f)).trans ?_)))))
  have g5 : pm_ev (pm_call pm_Tf sc (d + 2)) sc 1 pm_c58 16 [(0, pm_r 0), (1, .inl 0), (2, .inl (Int32.ofNat j))] ((some (pm_r 29)).toList ++ []) (pm_u x w f) = pm_ev (pm_call pm_Tf sc (d + 2)) sc 1 pm_c58 21 [(3, pm_r 1), (0, pm_r 0), (1, .inl 0), (2, .inl (Int32.ofNat j))] [pm_r 1] (pm_u x w f) := (pm_ev_iter [21] 10 _ _ _ _).trans rfl
  have g6 : pm_ev (pm_call pm_Tf sc (d + 2)) sc 1 pm_c58 21 [(3, pm_r 1), (0, pm_r 0), (1, .inl 0), (2, .inl (Int32.ofNat j))] [pm_r 1] (pm_u x w f) = pm_call1 (fun v u => pm_ev (pm_call pm_Tf sc (d + 2)) sc 1 pm_c58 24 [(3, pm_r 1), (0, pm_r 0), (1, .inl 0), (2, .inl (Int32.ofNat j))] (v.toList ++ []) u) none (pm_call pm_Tf sc (d + 2) 15 [pm_r 1] (pm_u x w f)) := (pm_ev_step _ _ _ _).trans rfl
  refine g5.trans (g6.trans ((pm_call1_of (zful0 (d + 2) x w f)).trans ?_))
  rw [if_neg (show ¬ x 1 1 < 12 by rw [hx, hn0]; decide)]
  exact (pm_ev_iter [] 5 _ _ _ _).trans rfl
theorem ztwi0 {sc : pm_Sc} (d : Nat) (x : Nat → Nat → Int32) (w : Nat → Nat → Bool) (f : Nat → Nat → Nat) (n j : Nat) (hx : x 1 1 = Int32.ofNat (n + 1)) (hj : j ≤ n) (hn1 : n < 11) (hf : pm_ff f) (hij : f 0 j ≠ f 0 (n + 1)) : pm_call pm_Tf sc (d + 3) 58 [pm_r 0, .inl 0, .inl (Int32.ofNat j)] (pm_u x w f) = some (some (.inl (Int32.ofNat (n + 2))), pm_u (pm_cx (pm_up x 1 1 (Int32.ofNat (n + 2))) (f 0 (n + 1)) (f 0 j)) (pm_cw w (f 0 (n + 1)) (f 0 j)) (pm_dbl f 0 j (n + 1))) := by
  have hn : n < 12 := by omega
  have g1 : pm_call pm_Tf sc (d + 3) 58 [pm_r 0, .inl 0, .inl (Int32.ofNat j)] (pm_u x w f) = pm_ev (pm_call pm_Tf sc (d + 2)) sc 1 pm_c58 3 [(0, pm_r 0), (1, .inl 0), (2, .inl (Int32.ofNat j))] [.inl (Int32.ofNat j), .inl 0, pm_r 0] (pm_u x w f) := (pm_ev_iter [3] 5 _ _ _ _).trans rfl
  have g2 : pm_ev (pm_call pm_Tf sc (d + 2)) sc 1 pm_c58 3 [(0, pm_r 0), (1, .inl 0), (2, .inl (Int32.ofNat j))] [.inl (Int32.ofNat j), .inl 0, pm_r 0] (pm_u x w f) = pm_call1 (fun v u => pm_ev (pm_call pm_Tf sc (d + 2)) sc 1 pm_c58 6 [(0, pm_r 0), (1, .inl 0), (2, .inl (Int32.ofNat j))] (v.toList ++ []) u) none (pm_call pm_Tf sc (d + 2) 68 [pm_r 0, .inl 0, .inl (Int32.ofNat j)] (pm_u x w f)) := (pm_ev_step _ _ _ _).trans rfl
  have hu := uw0 x w f n j hx hj hn
  have g2' := z680 (sc := sc) d (Int32.ofNat j) x w f
  rw [hu] at g2'
  have g3 : pm_ev (pm_call pm_Tf sc (d + 2)) sc 1 pm_c58 6 [(0, pm_r 0), (1, .inl 0), (2, .inl (Int32.ofNat j))] ((some (pm_b true)).toList ++ []) (pm_u x w f) = pm_ev (pm_call pm_Tf sc (d + 2)) sc 1 pm_c58 13 [(0, pm_r 0), (1, .inl 0), (2, .inl (Int32.ofNat j))] [.inl 0, pm_r 0] (pm_u x w f) := (pm_ev_iter [13] 5 _ _ _ _).trans rfl
  have g4 : pm_ev (pm_call pm_Tf sc (d + 2)) sc 1 pm_c58 13 [(0, pm_r 0), (1, .inl 0), (2, .inl (Int32.ofNat j))] [.inl 0, pm_r 0] (pm_u x w f) = pm_call1 (fun v u => pm_ev (pm_call pm_Tf sc (d + 2)) sc 1 pm_c58 16 [(0, pm_r 0), (1, .inl 0), (2, .inl (Int32.ofNat j))] (v.toList ++ []) u) none (pm_call pm_Tf sc (d + 2) 67 [pm_r 0, .inl 0] (pm_u x w f)) := (pm_ev_step _ _ _ _).trans rfl
  refine g1.trans (g2.trans ((pm_call1_of g2').trans (g3.trans (g4.trans ((pm_call1_of (show pm_call pm_Tf sc (d + 2) 67 [pm_r 0, .inl 0] (pm_u x w f) = some (some (pm_r 29), pm_u x w f) from z670 (d + 2) x w f)).trans ?_)))))
  have g5 : pm_ev (pm_call pm_Tf sc (d + 2)) sc 1 pm_c58 16 [(0, pm_r 0), (1, .inl 0), (2, .inl (Int32.ofNat j))] ((some (pm_r 29)).toList ++ []) (pm_u x w f) = pm_ev (pm_call pm_Tf sc (d + 2)) sc 1 pm_c58 21 [(3, pm_r 1), (0, pm_r 0), (1, .inl 0), (2, .inl (Int32.ofNat j))] [pm_r 1] (pm_u x w f) := (pm_ev_iter [21] 10 _ _ _ _).trans rfl
  have g6 : pm_ev (pm_call pm_Tf sc (d + 2)) sc 1 pm_c58 21 [(3, pm_r 1), (0, pm_r 0), (1, .inl 0), (2, .inl (Int32.ofNat j))] [pm_r 1] (pm_u x w f) = pm_call1 (fun v u => pm_ev (pm_call pm_Tf sc (d + 2)) sc 1 pm_c58 24 [(3, pm_r 1), (0, pm_r 0), (1, .inl 0), (2, .inl (Int32.ofNat j))] (v.toList ++ []) u) none (pm_call pm_Tf sc (d + 2) 15 [pm_r 1] (pm_u x w f)) := (pm_ev_step _ _ _ _).trans rfl
  refine g5.trans (g6.trans ((pm_call1_of (zful0 (d + 2) x w f)).trans ?_))
  rw [if_pos (show x 1 1 < 12 by rw [hx]; exact nI_lt (b := 12) (by omega) (by decide))]
  have g7 : pm_ev (pm_call pm_Tf sc (d + 2)) sc 1 pm_c58 24 [(3, pm_r 1), (0, pm_r 0), (1, .inl 0), (2, .inl (Int32.ofNat j))] ((some (pm_b false)).toList ++ []) (pm_u x w f) = pm_ev (pm_call pm_Tf sc (d + 2)) sc 1 pm_c58 31 [(3, pm_r 1), (0, pm_r 0), (1, .inl 0), (2, .inl (Int32.ofNat j))] [.inl (Int32.ofNat j), pm_r 1] (pm_u x w f) := (pm_ev_iter [31] 5 _ _ _ _).trans rfl
  have g8 : pm_ev (pm_call pm_Tf sc (d + 2)) sc 1 pm_c58 31 [(3, pm_r 1), (0, pm_r 0), (1, .inl 0), (2, .inl (Int32.ofNat j))] [.inl (Int32.ofNat j), pm_r 1] (pm_u x w f) = pm_call1 (fun v u => pm_ev (pm_call pm_Tf sc (d + 2)) sc 1 pm_c58 34 [(3, pm_r 1), (0, pm_r 0), (1, .inl 0), (2, .inl (Int32.ofNat j))] (v.toList ++ []) u) none (pm_call pm_Tf sc (d + 2) 18 [pm_r 1, .inl (Int32.ofNat j)] (pm_u x w f)) := (pm_ev_step _ _ _ _).trans rfl
  refine g7.trans (g8.trans ((pm_call1_of (zdb0 (d + 1) x w f j (n + 1) hx (by omega) (by omega) hf hij)).trans ?_))
  have hb1 := pm_F0_ne (hf (n + 1) (by omega)).1
  have hc2 : pm_cx (pm_up x 1 1 (Int32.ofNat (n + 1 + 1))) (f 0 (n + 1)) (f 0 j) 1 1 = Int32.ofNat (n + 2) := by rw [pm_cx_ne (by omega), pm_up_at, if_pos rfl]
  revert hc2
  generalize pm_cx (pm_up x 1 1 (Int32.ofNat (n + 1 + 1))) (f 0 (n + 1)) (f 0 j) = y
  intro hc2
  rw [← hc2]
  exact (pm_ev_iter [] 5 _ _ _ _).trans rfl
theorem db_b1 {c : Nat → List pm_V → pm_S → Option pm_Rs} {sc : pm_Sc} (x : Nat → Nat → Int32) (w : Nat → Nat → Bool) (f : Nat → Nat → Nat) (i k g : Nat) (hi : i < 11) : pm_ev c sc 0 pm_c18 22 [(3, .inl (Int32.ofNat (i + 1))), (2, pm_r g), (0, pm_r 15), (1, .inl (Int32.ofNat k))] [] (pm_u x w f) = if Int32.ofNat (i + 1) ≤ Int32.ofNat k + 1 then pm_ev c sc 0 pm_c18 49 [(3, .inl (Int32.ofNat (i + 1))), (2, pm_r g), (0, pm_r 15), (1, .inl (Int32.ofNat k))] [] (pm_u x w f) else pm_ev c sc 0 pm_c18 42 [(3, .inl (Int32.ofNat (i + 1))), (2, pm_r g), (0, pm_r 15), (1, .inl (Int32.ofNat k))] [pm_r (f 1 i), .inl (Int32.ofNat (i + 1)), pm_r 16] (pm_u x w f) := by
  rcases pm_lt11 hi with rfl | rfl | rfl | rfl | rfl | rfl | rfl | rfl | rfl | rfl | rfl <;> exact (pm_ev_iter [49, 42] 60 _ _ _ _).trans rfl
theorem db_c1 {c : Nat → List pm_V → pm_S → Option pm_Rs} {sc : pm_Sc} (x : Nat → Nat → Int32) (w : Nat → Nat → Bool) (f : Nat → Nat → Nat) (i k g q : Nat) (hi : i < 11) (hq : pm_cls 85 q = some 1) : pm_ev c sc 0 pm_c18 42 [(3, .inl (Int32.ofNat (i + 1))), (2, pm_r g), (0, pm_r 15), (1, .inl (Int32.ofNat k))] [pm_r q, .inl (Int32.ofNat (i + 1)), pm_r 16] (pm_u x w f) = pm_ev c sc 0 pm_c18 22 [(3, .inl (Int32.ofNat i)), (2, pm_r g), (0, pm_r 15), (1, .inl (Int32.ofNat k))] [] (pm_u x w (pm_up f 1 (i + 1) q)) := by
  rw [pm_ev_step]
  refine (pm_asta_of (u := pm_u x w f) (len := 12) rfl hq (pm_ib_of (by omega) (by decide))).trans ?_
  rw [show (Int32.ofNat (i + 1)).toNatClampNeg = i + 1 from nI_clamp (by omega), show pm_up (pm_u x w f).2.2.2 16 (i + 1) (some q) = pm_R (pm_up f 1 (i + 1) q) from pm_R_up1 (by omega)]
  rcases pm_lt11 hi with rfl | rfl | rfl | rfl | rfl | rfl | rfl | rfl | rfl | rfl | rfl <;> exact (pm_ev_iter [22] 5 _ _ _ _).trans rfl
theorem db_d1 {c : Nat → List pm_V → pm_S → Option pm_Rs} {sc : pm_Sc} (x : Nat → Nat → Int32) (w : Nat → Nat → Bool) (f : Nat → Nat → Nat) (k g : Nat) (i : Int32) (hk : k < 11) (hq : pm_cls 85 g = some 1) : pm_ev c sc 0 pm_c18 49 [(3, .inl (i)), (2, pm_r g), (0, pm_r 15), (1, .inl (Int32.ofNat k))] [] (pm_u x w f) = some (none, pm_u x w (pm_up f 1 (k + 1) g)) := by
  have h1 : pm_ev c sc 0 pm_c18 49 [(3, .inl (i)), (2, pm_r g), (0, pm_r 15), (1, .inl (Int32.ofNat k))] [] (pm_u x w f) = pm_ev c sc 0 pm_c18 57 [(3, .inl (i)), (2, pm_r g), (0, pm_r 15), (1, .inl (Int32.ofNat k))] [pm_r g, .inl (Int32.ofNat k + 1), pm_r 16] (pm_u x w f) := (pm_ev_iter [57] 60 _ _ _ _).trans rfl
  rw [h1, show Int32.ofNat k + 1 = Int32.ofNat (k + 1) from nI_1 k, pm_ev_step]
  refine (pm_asta_of (u := pm_u x w f) (len := 12) rfl hq (pm_ib_of (by omega) (by decide))).trans ?_
  rw [show (Int32.ofNat (k + 1)).toNatClampNeg = k + 1 from nI_clamp (by omega), show pm_up (pm_u x w f).2.2.2 16 (k + 1) (some g) = pm_R (pm_up f 1 (k + 1) g) from pm_R_up1 (by omega)]
  exact (pm_ev_iter [] 3 _ _ _ _).trans rfl
theorem db_l1 {c : Nat → List pm_V → pm_S → Option pm_Rs} {sc : pm_Sc} (x : Nat → Nat → Int32) (w : Nat → Nat → Bool) (f : Nat → Nat → Nat) (k n : Nat) (hk : k < n) (hn : n < 12) (hf : ∀ j, j < 12 → pm_cls 85 (f 1 j) = some 1) : ∀ (m i : Nat), i = k + m → i + 1 ≤ n → pm_ev c sc 0 pm_c18 22 [(3, .inl (Int32.ofNat (i + 1))), (2, pm_r (f 1 n)), (0, pm_r 15), (1, .inl (Int32.ofNat k))] [] (pm_u x w (pm_shr f 1 (i + 1) n)) = some (none, pm_u x w (pm_dbl f 1 k n))
  | 0, i, hm, hi => by
    have e : i = k := by omega
    subst e
    have hle : Int32.ofNat (i + 1) ≤ Int32.ofNat i + 1 := by rw [show Int32.ofNat i + 1 = Int32.ofNat (i + 1) from nI_1 i]; exact nI_le (Nat.le_refl _) (by omega)
    rw [db_b1 x w _ i i _ (by omega), if_pos hle, db_d1 x w _ i _ _ (by omega) (hf n hn), pm_shr_e]
  | m + 1, i, hm, hi => by
    have hlt : ¬ Int32.ofNat (i + 1) ≤ Int32.ofNat k + 1 := by rw [show Int32.ofNat k + 1 = Int32.ofNat (k + 1) from nI_1 k]; exact nI_ge (by omega) (by omega)
    have hcl : pm_cls 85 (pm_shr f 1 (i + 1) n 1 i) = some 1 := by
      unfold pm_shr
      rw [if_neg (by omega)]
      exact hf _ (by omega)
    rw [db_b1 x w _ i k _ (by omega), if_neg hlt, db_c1 x w _ i k _ _ (by omega) hcl, pm_shr_s f 1 i n hi]
    obtain ⟨i', rfl⟩ : ∃ i', i = i' + 1 := ⟨i - 1, by omega⟩
    exact db_l1 x w f k n hk hn hf m i' (by omega) (by omega)
theorem zdb1 {sc : pm_Sc} (d : Nat) (x : Nat → Nat → Int32) (w : Nat → Nat → Bool) (f : Nat → Nat → Nat) (k n : Nat) (hx : x 15 1 = Int32.ofNat n) (hk : k < n) (hn : n < 12) (hf : pm_ff f) (hij : f 1 k ≠ f 1 n) : pm_call pm_Tf sc (d + 1) 18 [pm_r 15, .inl (Int32.ofNat k)] (pm_u x w f) = some (none, pm_u (pm_cx (pm_up x 15 1 (Int32.ofNat (n + 1))) (f 1 n) (f 1 k)) (pm_cw w (f 1 n) (f 1 k)) (pm_dbl f 1 k n)) := by
  have h1 : pm_call pm_Tf sc (d + 1) 18 [pm_r 15, .inl (Int32.ofNat k)] (pm_u x w f) = pm_ev (pm_call pm_Tf sc d) sc 0 pm_c18 1 [(0, pm_r 15), (1, .inl (Int32.ofNat k))] [pm_r 15] (pm_u x w f) := (pm_ev_iter [1] 3 _ _ _ _).trans rfl
  have h2 : pm_ev (pm_call pm_Tf sc d) sc 0 pm_c18 1 [(0, pm_r 15), (1, .inl (Int32.ofNat k))] [pm_r 15] (pm_u x w f) = pm_call1 (fun v u => pm_ev (pm_call pm_Tf sc d) sc 0 pm_c18 4 [(0, pm_r 15), (1, .inl (Int32.ofNat k))] (v.toList ++ []) u) none (pm_call pm_Tf sc d 16 [pm_r 15] (pm_u x w f)) := (pm_ev_step _ _ _ _).trans rfl
  refine h1.trans (h2.trans ((pm_call1_of (zlen1 d x w f n hx hn)).trans ?_))
  have hq1 := (hf n hn).2
  have hq2 := (hf k (by omega)).2
  have hb1 := pm_F1_ne hq1
  have h3 : ∀ (g : Nat) (y : Nat → Nat → Int32), pm_ev (pm_call pm_Tf sc d) sc 0 pm_c18 4 [(0, pm_r 15), (1, .inl (Int32.ofNat k))] ((some (pm_r g)).toList ++ []) (pm_u y w f) = pm_ev (pm_call pm_Tf sc d) sc 0 pm_c18 12 [(2, pm_r g), (0, pm_r 15), (1, .inl (Int32.ofNat k))] [pm_r (f 1 k), pm_r g] (pm_u y w f) := by
    intro g y
    rcases pm_lt12 (show k < 12 by omega) with rfl | rfl | rfl | rfl | rfl | rfl | rfl | rfl | rfl | rfl | rfl | rfl <;> exact (pm_ev_iter [12] 10 _ _ _ _).trans rfl
  have h4 : ∀ (g : Nat) (q2 : Nat) (y : Nat → Nat → Int32), g ∈ pm_F1 → pm_ev (pm_call pm_Tf sc d) sc 0 pm_c18 12 [(2, pm_r g), (0, pm_r 15), (1, .inl (Int32.ofNat k))] [pm_r q2, pm_r g] (pm_u y w f) = pm_call1 (fun v u => pm_ev (pm_call pm_Tf sc d) sc 0 pm_c18 15 [(2, pm_r g), (0, pm_r 15), (1, .inl (Int32.ofNat k))] (v.toList ++ []) u) none (pm_call pm_Tf sc d 2 [pm_r g, pm_r q2] (pm_u y w f)) := by
    intro g q2 y hq
    (simp only [pm_F1, List.mem_cons, List.not_mem_nil, or_false] at hq; rcases hq with rfl | rfl | rfl | rfl | rfl | rfl | rfl | rfl | rfl | rfl | rfl | rfl) <;> exact (pm_ev_step _ _ _ _).trans rfl
  refine (h3 _ _).trans ((h4 _ _ _ hq1).trans ((pm_call1_of (zcopy d (pm_up x 15 1 (Int32.ofNat (n + 1))) w f (f 1 n) (f 1 k) (pm_F1_c hq1) (pm_F1_c hq2) hij)).trans ?_))
  have hc2 : pm_cx (pm_up x 15 1 (Int32.ofNat (n + 1))) (f 1 n) (f 1 k) 15 1 = Int32.ofNat (n + 1) := by rw [pm_cx_ne (by omega), pm_up_at, if_pos rfl]
  have hF := fun j hj => pm_F1_c (hf j hj).2
  revert hc2
  generalize pm_cx (pm_up x 15 1 (Int32.ofNat (n + 1))) (f 1 n) (f 1 k) = y
  generalize pm_cw w (f 1 n) (f 1 k) = z
  intro hc2
  have h5 : pm_ev (pm_call pm_Tf sc d) sc 0 pm_c18 15 [(2, pm_r (f 1 n)), (0, pm_r 15), (1, .inl (Int32.ofNat k))] ((none : Option pm_V).toList ++ []) (pm_u y z f) = pm_ev (pm_call pm_Tf sc d) sc 0 pm_c18 22 [(3, .inl (y 15 1 - 1)), (2, pm_r (f 1 n)), (0, pm_r 15), (1, .inl (Int32.ofNat k))] [] (pm_u y z f) := (pm_ev_iter [22] 10 _ _ _ _).trans rfl
  refine h5.trans ?_
  rw [hc2, show Int32.ofNat (n + 1) - 1 = Int32.ofNat n from nI_pred n]
  obtain ⟨n', rfl⟩ : ∃ n', n = n' + 1 := ⟨n - 1, by omega⟩
  have h6 := db_l1 (c := pm_call pm_Tf sc d) (sc := sc) y z f k (n' + 1) hk hn hF (n' - k) n' (by omega) (Nat.le_refl _)
  rw [pm_shr_0] at h6
  exact h6
theorem ztwf1 {sc : pm_Sc} (d : Nat) (x : Nat → Nat → Int32) (w : Nat → Nat → Bool) (f : Nat → Nat → Nat) (n j : Nat) (hx : x 15 1 = Int32.ofNat (n + 1)) (hj : j ≤ n) (hn : n = 11) : pm_call pm_Tf sc (d + 3) 58 [pm_r 0, .inl 1, .inl (Int32.ofNat j)] (pm_u x w f) = some (some (.inl (-1)), pm_u x w f) := by
  have hn0 := hn
  have hn : n < 12 := by omega
  have g1 : pm_call pm_Tf sc (d + 3) 58 [pm_r 0, .inl 1, .inl (Int32.ofNat j)] (pm_u x w f) = pm_ev (pm_call pm_Tf sc (d + 2)) sc 1 pm_c58 3 [(0, pm_r 0), (1, .inl 1), (2, .inl (Int32.ofNat j))] [.inl (Int32.ofNat j), .inl 1, pm_r 0] (pm_u x w f) := (pm_ev_iter [3] 5 _ _ _ _).trans rfl
  have g2 : pm_ev (pm_call pm_Tf sc (d + 2)) sc 1 pm_c58 3 [(0, pm_r 0), (1, .inl 1), (2, .inl (Int32.ofNat j))] [.inl (Int32.ofNat j), .inl 1, pm_r 0] (pm_u x w f) = pm_call1 (fun v u => pm_ev (pm_call pm_Tf sc (d + 2)) sc 1 pm_c58 6 [(0, pm_r 0), (1, .inl 1), (2, .inl (Int32.ofNat j))] (v.toList ++ []) u) none (pm_call pm_Tf sc (d + 2) 68 [pm_r 0, .inl 1, .inl (Int32.ofNat j)] (pm_u x w f)) := (pm_ev_step _ _ _ _).trans rfl
  have hu := uw1 x w f n j hx hj hn
  have g2' := z681 (sc := sc) d (Int32.ofNat j) x w f
  rw [hu] at g2'
  have g3 : pm_ev (pm_call pm_Tf sc (d + 2)) sc 1 pm_c58 6 [(0, pm_r 0), (1, .inl 1), (2, .inl (Int32.ofNat j))] ((some (pm_b true)).toList ++ []) (pm_u x w f) = pm_ev (pm_call pm_Tf sc (d + 2)) sc 1 pm_c58 13 [(0, pm_r 0), (1, .inl 1), (2, .inl (Int32.ofNat j))] [.inl 1, pm_r 0] (pm_u x w f) := (pm_ev_iter [13] 5 _ _ _ _).trans rfl
  have g4 : pm_ev (pm_call pm_Tf sc (d + 2)) sc 1 pm_c58 13 [(0, pm_r 0), (1, .inl 1), (2, .inl (Int32.ofNat j))] [.inl 1, pm_r 0] (pm_u x w f) = pm_call1 (fun v u => pm_ev (pm_call pm_Tf sc (d + 2)) sc 1 pm_c58 16 [(0, pm_r 0), (1, .inl 1), (2, .inl (Int32.ofNat j))] (v.toList ++ []) u) none (pm_call pm_Tf sc (d + 2) 67 [pm_r 0, .inl 1] (pm_u x w f)) := (pm_ev_step _ _ _ _).trans rfl
  refine g1.trans (g2.trans ((pm_call1_of g2').trans (g3.trans (g4.trans ((pm_call1_of (show pm_call pm_Tf sc (d + 2) 67 [pm_r 0, .inl 1] (pm_u x w f) = some (some (pm_r 48), pm_u x w f) from z671 (d + 2) x w f)).trans ?_)))))
  have g5 : pm_ev (pm_call pm_Tf sc (d + 2)) sc 1 pm_c58 16 [(0, pm_r 0), (1, .inl 1), (2, .inl (Int32.ofNat j))] ((some (pm_r 48)).toList ++ []) (pm_u x w f) = pm_ev (pm_call pm_Tf sc (d + 2)) sc 1 pm_c58 21 [(3, pm_r 15), (0, pm_r 0), (1, .inl 1), (2, .inl (Int32.ofNat j))] [pm_r 15] (pm_u x w f) := (pm_ev_iter [21] 10 _ _ _ _).trans rfl
  have g6 : pm_ev (pm_call pm_Tf sc (d + 2)) sc 1 pm_c58 21 [(3, pm_r 15), (0, pm_r 0), (1, .inl 1), (2, .inl (Int32.ofNat j))] [pm_r 15] (pm_u x w f) = pm_call1 (fun v u => pm_ev (pm_call pm_Tf sc (d + 2)) sc 1 pm_c58 24 [(3, pm_r 15), (0, pm_r 0), (1, .inl 1), (2, .inl (Int32.ofNat j))] (v.toList ++ []) u) none (pm_call pm_Tf sc (d + 2) 15 [pm_r 15] (pm_u x w f)) := (pm_ev_step _ _ _ _).trans rfl
  refine g5.trans (g6.trans ((pm_call1_of (zful1 (d + 2) x w f)).trans ?_))
  rw [if_neg (show ¬ x 15 1 < 12 by rw [hx, hn0]; decide)]
  exact (pm_ev_iter [] 5 _ _ _ _).trans rfl
theorem ztwi1 {sc : pm_Sc} (d : Nat) (x : Nat → Nat → Int32) (w : Nat → Nat → Bool) (f : Nat → Nat → Nat) (n j : Nat) (hx : x 15 1 = Int32.ofNat (n + 1)) (hj : j ≤ n) (hn1 : n < 11) (hf : pm_ff f) (hij : f 1 j ≠ f 1 (n + 1)) : pm_call pm_Tf sc (d + 3) 58 [pm_r 0, .inl 1, .inl (Int32.ofNat j)] (pm_u x w f) = some (some (.inl (Int32.ofNat (n + 2))), pm_u (pm_cx (pm_up x 15 1 (Int32.ofNat (n + 2))) (f 1 (n + 1)) (f 1 j)) (pm_cw w (f 1 (n + 1)) (f 1 j)) (pm_dbl f 1 j (n + 1))) := by
  have hn : n < 12 := by omega
  have g1 : pm_call pm_Tf sc (d + 3) 58 [pm_r 0, .inl 1, .inl (Int32.ofNat j)] (pm_u x w f) = pm_ev (pm_call pm_Tf sc (d + 2)) sc 1 pm_c58 3 [(0, pm_r 0), (1, .inl 1), (2, .inl (Int32.ofNat j))] [.inl (Int32.ofNat j), .inl 1, pm_r 0] (pm_u x w f) := (pm_ev_iter [3] 5 _ _ _ _).trans rfl
  have g2 : pm_ev (pm_call pm_Tf sc (d + 2)) sc 1 pm_c58 3 [(0, pm_r 0), (1, .inl 1), (2, .inl (Int32.ofNat j))] [.inl (Int32.ofNat j), .inl 1, pm_r 0] (pm_u x w f) = pm_call1 (fun v u => pm_ev (pm_call pm_Tf sc (d + 2)) sc 1 pm_c58 6 [(0, pm_r 0), (1, .inl 1), (2, .inl (Int32.ofNat j))] (v.toList ++ []) u) none (pm_call pm_Tf sc (d + 2) 68 [pm_r 0, .inl 1, .inl (Int32.ofNat j)] (pm_u x w f)) := (pm_ev_step _ _ _ _).trans rfl
  have hu := uw1 x w f n j hx hj hn
  have g2' := z681 (sc := sc) d (Int32.ofNat j) x w f
  rw [hu] at g2'
  have g3 : pm_ev (pm_call pm_Tf sc (d + 2)) sc 1 pm_c58 6 [(0, pm_r 0), (1, .inl 1), (2, .inl (Int32.ofNat j))] ((some (pm_b true)).toList ++ []) (pm_u x w f) = pm_ev (pm_call pm_Tf sc (d + 2)) sc 1 pm_c58 13 [(0, pm_r 0), (1, .inl 1), (2, .inl (Int32.ofNat j))] [.inl 1, pm_r 0] (pm_u x w f) := (pm_ev_iter [13] 5 _ _ _ _).trans rfl
  have g4 : pm_ev (pm_call pm_Tf sc (d + 2)) sc 1 pm_c58 13 [(0, pm_r 0), (1, .inl 1), (2, .inl (Int32.ofNat j))] [.inl 1, pm_r 0] (pm_u x w f) = pm_call1 (fun v u => pm_ev (pm_call pm_Tf sc (d + 2)) sc 1 pm_c58 16 [(0, pm_r 0), (1, .inl 1), (2, .inl (Int32.ofNat j))] (v.toList ++ []) u) none (pm_call pm_Tf sc (d + 2) 67 [pm_r 0, .inl 1] (pm_u x w f)) := (pm_ev_step _ _ _ _).trans rfl
  refine g1.trans (g2.trans ((pm_call1_of g2').trans (g3.trans (g4.trans ((pm_call1_of (show pm_call pm_Tf sc (d + 2) 67 [pm_r 0, .inl 1] (pm_u x w f) = some (some (pm_r 48), pm_u x w f) from z671 (d + 2) x w f)).trans ?_)))))
  have g5 : pm_ev (pm_call pm_Tf sc (d + 2)) sc 1 pm_c58 16 [(0, pm_r 0), (1, .inl 1), (2, .inl (Int32.ofNat j))] ((some (pm_r 48)).toList ++ []) (pm_u x w f) = pm_ev (pm_call pm_Tf sc (d + 2)) sc 1 pm_c58 21 [(3, pm_r 15), (0, pm_r 0), (1, .inl 1), (2, .inl (Int32.ofNat j))] [pm_r 15] (pm_u x w f) := (pm_ev_iter [21] 10 _ _ _ _).trans rfl
  have g6 : pm_ev (pm_call pm_Tf sc (d + 2)) sc 1 pm_c58 21 [(3, pm_r 15), (0, pm_r 0), (1, .inl 1), (2, .inl (Int32.ofNat j))] [pm_r 15] (pm_u x w f) = pm_call1 (fun v u => pm_ev (pm_call pm_Tf sc (d + 2)) sc 1 pm_c58 24 [(3, pm_r 15), (0, pm_r 0), (1, .inl 1), (2, .inl (Int32.ofNat j))] (v.toList ++ []) u) none (pm_call pm_Tf sc (d + 2) 15 [pm_r 15] (pm_u x w f)) := (pm_ev_step _ _ _ _).trans rfl
  refine g5.trans (g6.trans ((pm_call1_of (zful1 (d + 2) x w f)).trans ?_))
  rw [if_pos (show x 15 1 < 12 by rw [hx]; exact nI_lt (b := 12) (by omega) (by decide))]
  have g7 : pm_ev (pm_call pm_Tf sc (d + 2)) sc 1 pm_c58 24 [(3, pm_r 15), (0, pm_r 0), (1, .inl 1), (2, .inl (Int32.ofNat j))] ((some (pm_b false)).toList ++ []) (pm_u x w f) = pm_ev (pm_call pm_Tf sc (d + 2)) sc 1 pm_c58 31 [(3, pm_r 15), (0, pm_r 0), (1, .inl 1), (2, .inl (Int32.ofNat j))] [.inl (Int32.ofNat j), pm_r 15] (pm_u x w f) := (pm_ev_iter [31] 5 _ _ _ _).trans rfl
  have g8 : pm_ev (pm_call pm_Tf sc (d + 2)) sc 1 pm_c58 31 [(3, pm_r 15), (0, pm_r 0), (1, .inl 1), (2, .inl (Int32.ofNat j))] [.inl (Int32.ofNat j), pm_r 15] (pm_u x w f) = pm_call1 (fun v u => pm_ev (pm_call pm_Tf sc (d + 2)) sc 1 pm_c58 34 [(3, pm_r 15), (0, pm_r 0), (1, .inl 1), (2, .inl (Int32.ofNat j))] (v.toList ++ []) u) none (pm_call pm_Tf sc (d + 2) 18 [pm_r 15, .inl (Int32.ofNat j)] (pm_u x w f)) := (pm_ev_step _ _ _ _).trans rfl
  refine g7.trans (g8.trans ((pm_call1_of (zdb1 (d + 1) x w f j (n + 1) hx (by omega) (by omega) hf hij)).trans ?_))
  have hb1 := pm_F1_ne (hf (n + 1) (by omega)).2
  have hc2 : pm_cx (pm_up x 15 1 (Int32.ofNat (n + 1 + 1))) (f 1 (n + 1)) (f 1 j) 15 1 = Int32.ofNat (n + 2) := by rw [pm_cx_ne (by omega), pm_up_at, if_pos rfl]
  revert hc2
  generalize pm_cx (pm_up x 15 1 (Int32.ofNat (n + 1 + 1))) (f 1 (n + 1)) (f 1 j) = y
  intro hc2
  rw [← hc2]
  exact (pm_ev_iter [] 5 _ _ _ _).trans rfl

/-! Frames copied, lines lengthened. -/
def pm_F0 : List Nat := [3, 4, 5, 6, 7, 8, 9, 10, 11, 12, 13, 14]
def pm_F1 : List Nat := [17, 18, 19, 20, 21, 22, 23, 24, 25, 26, 27, 28]
theorem pm_F0_c {q : Nat} (h : q ∈ pm_F0) : pm_cls 85 q = some 1 := by
  simp only [pm_F0, List.mem_cons, List.not_mem_nil, or_false] at h
  rcases h with rfl | rfl | rfl | rfl | rfl | rfl | rfl | rfl | rfl | rfl | rfl | rfl <;> rfl
theorem pm_F1_c {q : Nat} (h : q ∈ pm_F1) : pm_cls 85 q = some 1 := by
  simp only [pm_F1, List.mem_cons, List.not_mem_nil, or_false] at h
  rcases h with rfl | rfl | rfl | rfl | rfl | rfl | rfl | rfl | rfl | rfl | rfl | rfl <;> rfl
theorem pm_obj_of {α : Type} {n k ci : Nat} {st : List pm_V} {kg : Nat → Nat → List pm_V → α} {kn : α} (h : pm_cls n k = some ci) : pm_obj n (pm_r k :: st) kg kn = kg k ci st := by
  unfold pm_obj
  simp only [h]
theorem pm_cpx {c : Nat → List pm_V → pm_S → Option pm_Rs} {sc : pm_Sc} {rk : Nat} {cd : pm_Cd} {pc a b d1 e1 i j q q2 : Nat} {lv : pm_Lv} {u : pm_S} (h1 : pm_find cd pc = some (.aload_n 0, a, [])) (h2 : pm_find cd a = some (.aload_n 1, b, [])) (h3 : pm_find cd b = some (.getfield i, d1, [j, 0, 1])) (h4 : pm_find cd d1 = some (.putfield i, e1, [j, 0, 0, 1])) (l0 : pm_lget lv ((0 : Fin 4) : Nat) = some (pm_r q)) (l1 : pm_lget lv ((1 : Fin 4) : Nat) = some (pm_r q2)) (hq : pm_cls u.1 q = some 1) (hq2 : pm_cls u.1 q2 = some 1) : pm_ev c sc rk cd pc lv [] u = pm_ev c sc rk cd e1 lv [] (u.1, pm_up u.2.1 q j (u.2.1 q2 j), u.2.2.1, u.2.2.2) := by
  rw [pm_ev_step]
  unfold pm_stp
  rw [h1]
  simp only [pm_do]
  rw [l0]
  show pm_ev c sc rk cd a lv [pm_r q] u = _
  rw [pm_ev_step]
  unfold pm_stp
  rw [h2]
  simp only [pm_do]
  rw [l1]
  show pm_ev c sc rk cd b lv [pm_r q2, pm_r q] u = _
  rw [pm_ev_step]
  unfold pm_stp
  rw [h3]
  simp only [pm_do]
  rw [pm_obj_of hq2]
  show pm_ev c sc rk cd d1 lv [.inl (u.2.1 q2 j), pm_r q] u = _
  rw [pm_ev_step]
  unfold pm_stp
  rw [h4]
  simp only [pm_do]
  rw [pm_obj_of hq]
  rfl
theorem pm_cpw {c : Nat → List pm_V → pm_S → Option pm_Rs} {sc : pm_Sc} {rk : Nat} {cd : pm_Cd} {pc a b d1 e1 i j q q2 : Nat} {lv : pm_Lv} {u : pm_S} (h1 : pm_find cd pc = some (.aload_n 0, a, [])) (h2 : pm_find cd a = some (.aload_n 1, b, [])) (h3 : pm_find cd b = some (.getfield i, d1, [j, 1, 1])) (h4 : pm_find cd d1 = some (.putfield i, e1, [j, 1, 0, 1])) (l0 : pm_lget lv ((0 : Fin 4) : Nat) = some (pm_r q)) (l1 : pm_lget lv ((1 : Fin 4) : Nat) = some (pm_r q2)) (hq : pm_cls u.1 q = some 1) (hq2 : pm_cls u.1 q2 = some 1) : pm_ev c sc rk cd pc lv [] u = pm_ev c sc rk cd e1 lv [] (u.1, u.2.1, pm_up u.2.2.1 q j (u.2.2.1 q2 j), u.2.2.2) := by
  rw [pm_ev_step]
  unfold pm_stp
  rw [h1]
  simp only [pm_do]
  rw [l0]
  show pm_ev c sc rk cd a lv [pm_r q] u = _
  rw [pm_ev_step]
  unfold pm_stp
  rw [h2]
  simp only [pm_do]
  rw [l1]
  show pm_ev c sc rk cd b lv [pm_r q2, pm_r q] u = _
  rw [pm_ev_step]
  unfold pm_stp
  rw [h3]
  simp only [pm_do]
  rw [pm_obj_of hq2]
  show pm_ev c sc rk cd d1 lv [pm_b (u.2.2.1 q2 j), pm_r q] u = _
  rw [pm_ev_step]
  unfold pm_stp
  rw [h4]
  simp only [pm_do]
  rw [pm_obj_of hq]
  rfl
/-- the frame at q becomes as that at q2 -/
def pm_cx (x : Nat → Nat → Int32) (q q2 : Nat) : Nat → Nat → Int32 := pm_up (pm_up (pm_up (pm_up x q 0 (x q2 0)) q 1 (x q2 1)) q 2 (x q2 2)) q 3 (x q2 3)
def pm_cw (w : Nat → Nat → Bool) (q q2 : Nat) : Nat → Nat → Bool := pm_up (pm_up w q 4 (w q2 4)) q 5 (w q2 5)
theorem zcopy {sc : pm_Sc} (d : Nat) (x : Nat → Nat → Int32) (w : Nat → Nat → Bool) (f : Nat → Nat → Nat) (q q2 : Nat) (hq : pm_cls 85 q = some 1) (hq2 : pm_cls 85 q2 = some 1) (hne : q2 ≠ q) : pm_call pm_Tf sc d 2 [pm_r q, pm_r q2] (pm_u x w f) = some (none, pm_u (pm_cx x q q2) (pm_cw w q q2) f) := by
  refine pm_call_0 (fun c => ?_) d
  show pm_ev c sc 0 pm_c2 0 [(0, pm_r q), (1, pm_r q2)] [] (pm_u x w f) = _
  rw [pm_cpx (u := pm_u x w f) rfl rfl rfl rfl rfl rfl hq hq2]
  rw [pm_cpx rfl rfl rfl rfl rfl rfl hq hq2]
  rw [pm_cpx rfl rfl rfl rfl rfl rfl hq hq2]
  rw [pm_cpx rfl rfl rfl rfl rfl rfl hq hq2]
  rw [pm_cpw rfl rfl rfl rfl rfl rfl hq hq2]
  rw [pm_cpw rfl rfl rfl rfl rfl rfl hq hq2]
  simp only [pm_up_ne hne]
  exact (pm_ev_iter [] 2 _ _ _ _).trans rfl
theorem zlen0 {sc : pm_Sc} (d : Nat) (x : Nat → Nat → Int32) (w : Nat → Nat → Bool) (f : Nat → Nat → Nat) (n : Nat) (hx : x 1 1 = Int32.ofNat n) (hn : n < 12) : pm_call pm_Tf sc d 16 [pm_r 1] (pm_u x w f) = some (some (pm_r (f 0 n)), pm_u (pm_up x 1 1 (Int32.ofNat (n + 1))) w f) := by
  refine pm_call_0 (fun c => ?_) d
  show pm_ev c sc 3 pm_c16 0 [(0, pm_r 1)] [] (pm_u x w f) = _
  have h1 : pm_ev c sc 3 pm_c16 0 [(0, pm_r 1)] [] (pm_u x w f) = pm_ev c sc 3 pm_c16 20 [(0, pm_r 1)] [.inl (x 1 1 + 1 - 1), pm_r 2] (pm_u (pm_up x 1 1 (x 1 1 + 1)) w f) := (pm_ev_iter [20] 30 _ _ _ _).trans rfl
  rw [h1, hx, show Int32.ofNat n + 1 = Int32.ofNat (n + 1) from nI_1 n, show Int32.ofNat (n + 1) - 1 = Int32.ofNat n from nI_pred n]
  rcases pm_lt12 hn with rfl | rfl | rfl | rfl | rfl | rfl | rfl | rfl | rfl | rfl | rfl | rfl <;> exact (pm_ev_iter [] 3 _ _ _ _).trans rfl
theorem zful0 {sc : pm_Sc} (d : Nat) (x : Nat → Nat → Int32) (w : Nat → Nat → Bool) (f : Nat → Nat → Nat) : pm_call pm_Tf sc d 15 [pm_r 1] (pm_u x w f) = some (some (pm_b (if x 1 1 < 12 then false else true)), pm_u x w f) := by
  refine pm_call_0 (fun c => ?_) d
  have h1 : pm_ev c sc (pm_Tf 15).2 (pm_Tf 15).1 0 (pm_args 0 [pm_r 1]) [] (pm_u x w f) = if x 1 1 < 12 then some (some (pm_b false), pm_u x w f) else some (some (pm_b true), pm_u x w f) := (pm_ev_iter [] 20 _ _ _ _).trans rfl
  rw [h1]
  by_cases h : x 1 1 < 12
  · rw [if_pos h, if_pos h]
  · rw [if_neg h, if_neg h]
theorem zlen1 {sc : pm_Sc} (d : Nat) (x : Nat → Nat → Int32) (w : Nat → Nat → Bool) (f : Nat → Nat → Nat) (n : Nat) (hx : x 15 1 = Int32.ofNat n) (hn : n < 12) : pm_call pm_Tf sc d 16 [pm_r 15] (pm_u x w f) = some (some (pm_r (f 1 n)), pm_u (pm_up x 15 1 (Int32.ofNat (n + 1))) w f) := by
  refine pm_call_0 (fun c => ?_) d
  show pm_ev c sc 3 pm_c16 0 [(0, pm_r 15)] [] (pm_u x w f) = _
  have h1 : pm_ev c sc 3 pm_c16 0 [(0, pm_r 15)] [] (pm_u x w f) = pm_ev c sc 3 pm_c16 20 [(0, pm_r 15)] [.inl (x 15 1 + 1 - 1), pm_r 16] (pm_u (pm_up x 15 1 (x 15 1 + 1)) w f) := (pm_ev_iter [20] 30 _ _ _ _).trans rfl
  rw [h1, hx, show Int32.ofNat n + 1 = Int32.ofNat (n + 1) from nI_1 n, show Int32.ofNat (n + 1) - 1 = Int32.ofNat n from nI_pred n]
  rcases pm_lt12 hn with rfl | rfl | rfl | rfl | rfl | rfl | rfl | rfl | rfl | rfl | rfl | rfl <;> exact (pm_ev_iter [] 3 _ _ _ _).trans rfl
theorem zful1 {sc : pm_Sc} (d : Nat) (x : Nat → Nat → Int32) (w : Nat → Nat → Bool) (f : Nat → Nat → Nat) : pm_call pm_Tf sc d 15 [pm_r 15] (pm_u x w f) = some (some (pm_b (if x 15 1 < 12 then false else true)), pm_u x w f) := by
  refine pm_call_0 (fun c => ?_) d
  have h1 : pm_ev c sc (pm_Tf 15).2 (pm_Tf 15).1 0 (pm_args 0 [pm_r 15]) [] (pm_u x w f) = if x 15 1 < 12 then some (some (pm_b false), pm_u x w f) else some (some (pm_b true), pm_u x w f) := (pm_ev_iter [] 20 _ _ _ _).trans rfl
  rw [h1]
  by_cases h : x 15 1 < 12
  · rw [if_pos h, if_pos h]
  · rw [if_neg h, if_neg h]

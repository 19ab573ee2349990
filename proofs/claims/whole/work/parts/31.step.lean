/-! Steps: send, advance, the loops of step, on both sides of the comparison. -/
def pm_ln (x : Nat → Nat → Int32) (p : Nat) : Prop := ∃ n, n ≤ 12 ∧ x p 1 = Int32.ofNat n
def pm_ff (f : Nat → Nat → Nat) : Prop := ∀ j, j < 12 → f 0 j ∈ pm_F0 ∧ f 1 j ∈ pm_F1
theorem pm_up_same {α : Type} {x : Nat → Nat → α} {k j : Nat} {v : α} (h : x k j = v) : pm_up x k j v = x := by
  funext a b
  rw [pm_up_eq]
  by_cases hh : a = k ∧ b = j
  · rw [if_pos hh, hh.1, hh.2, h]
  · rw [if_neg hh]
theorem pm_F0_ne {q : Nat} (h : q ∈ pm_F0) : 3 ≤ q ∧ q ≤ 14 := by
  simp only [pm_F0, List.mem_cons, List.not_mem_nil, or_false] at h
  omega
theorem pm_F1_ne {q : Nat} (h : q ∈ pm_F1) : 17 ≤ q ∧ q ≤ 28 := by
  simp only [pm_F1, List.mem_cons, List.not_mem_nil, or_false] at h
  omega
theorem k65 (x : Nat → Nat → Int32) (w : Nat → Nat → Bool) (f : Nat → Nat → Nat) : ∀ aa : Nat, aa ≠ 0 → (q65 x w f).1 aa = x aa ∧ (q65 x w f).2 aa = w aa := by
  intro aa h
  unfold q65
  split
  · exact ⟨pm_up_ne h, rfl⟩
  · exact ⟨rfl, rfl⟩
theorem k66 (x : Nat → Nat → Int32) (w : Nat → Nat → Bool) (f : Nat → Nat → Nat) : ∀ aa : Nat, aa ≠ 0 → (q66 x w f).1 aa = x aa ∧ (q66 x w f).2 aa = w aa := by
  intro aa h
  unfold q66
  repeat' split
  all_goals first | exact ⟨rfl, rfl⟩ | exact ⟨pm_up_ne h, rfl⟩
def csa (x : Nat → Nat → Int32) (w : Nat → Nat → Bool) (f : Nat → Nat → Nat) : (Nat → Nat → Int32) × (Nat → Nat → Bool) := if x 15 1 < 12 then q23a (f 1 (x 15 1).toNatClampNeg) (pm_up x 15 1 (x 15 1 + 1)) w f else (x, w)
theorem zcsa {sc : pm_Sc} (d : Nat) (x : Nat → Nat → Int32) (w : Nat → Nat → Bool) (f : Nat → Nat → Nat) (hl : pm_ln x 15) (hf : pm_ff f) : pm_call pm_Tf sc (d + 4) 23 [pm_r 29] (pm_u x w f) = some (none, pm_u (csa x w f).1 (csa x w f).2 f) := by
  obtain ⟨n, hn, hx⟩ := hl
  show pm_ev (pm_call pm_Tf sc (d + 3)) sc 0 pm_c23 0 [(0, pm_r 29)] [] (pm_u x w f) = _
  have h1 : pm_ev (pm_call pm_Tf sc (d + 3)) sc 0 pm_c23 0 [(0, pm_r 29)] [] (pm_u x w f) = pm_ev (pm_call pm_Tf sc (d + 3)) sc 0 pm_c23 4 [(0, pm_r 29)] [pm_r 15] (pm_u x w f) := (pm_ev_iter [4] 5 _ _ _ _).trans rfl
  have h2 : pm_ev (pm_call pm_Tf sc (d + 3)) sc 0 pm_c23 4 [(0, pm_r 29)] [pm_r 15] (pm_u x w f) = pm_call1 (fun v u => pm_ev (pm_call pm_Tf sc (d + 3)) sc 0 pm_c23 7 [(0, pm_r 29)] (v.toList ++ []) u) none (pm_call pm_Tf sc (d + 3) 15 [pm_r 15] (pm_u x w f)) := (pm_ev_step _ _ _ _).trans rfl
  rw [h1, h2, pm_call1_of (zful1 (d + 3) x w f)]
  unfold csa
  by_cases h : x 15 1 < 12
  · rw [if_pos h, if_pos h]
    have hn12 : n < 12 := by
      rw [hx] at h
      exact (nI_ltI (by omega) (by decide)).mp h
    have h3 : pm_ev (pm_call pm_Tf sc (d + 3)) sc 0 pm_c23 7 [(0, pm_r 29)] ((some (pm_b false)).toList ++ []) (pm_u x w f) = pm_ev (pm_call pm_Tf sc (d + 3)) sc 0 pm_c23 15 [(0, pm_r 29)] [pm_r 15] (pm_u x w f) := (pm_ev_iter [15] 5 _ _ _ _).trans rfl
    have h4 : pm_ev (pm_call pm_Tf sc (d + 3)) sc 0 pm_c23 15 [(0, pm_r 29)] [pm_r 15] (pm_u x w f) = pm_call1 (fun v u => pm_ev (pm_call pm_Tf sc (d + 3)) sc 0 pm_c23 18 [(0, pm_r 29)] (v.toList ++ []) u) none (pm_call pm_Tf sc (d + 3) 16 [pm_r 15] (pm_u x w f)) := (pm_ev_step _ _ _ _).trans rfl
    rw [h3, h4, pm_call1_of (zlen1 (d + 3) x w f n hx hn12)]
    have hcl : (x 15 1).toNatClampNeg = n := by rw [hx]; exact nI_clamp (by omega)
    rw [hcl, show x 15 1 + 1 = Int32.ofNat (n + 1) by rw [hx]; exact nI_1 n]
    exact e23a d (f 1 n) _ w f (hf n hn12).2
  · rw [if_neg h, if_neg h]
    exact (pm_ev_iter [] 5 _ _ _ _).trans rfl
theorem lcsa (x : Nat → Nat → Int32) (w : Nat → Nat → Bool) (f : Nat → Nat → Nat) (hl : pm_ln x 15) (hf : pm_ff f) : ∀ aa : Nat, aa ≠ 15 → ¬ (17 ≤ aa ∧ aa ≤ 28) → (csa x w f).1 aa = x aa ∧ (csa x w f).2 aa = w aa := by
  intro aa h1 h2
  obtain ⟨n, hn, hx⟩ := hl
  unfold csa
  by_cases h : x 15 1 < 12
  · rw [if_pos h]
    have hn12 : n < 12 := by
      rw [hx] at h
      exact (nI_ltI (by omega) (by decide)).mp h
    have hcl : (x 15 1).toNatClampNeg = n := by rw [hx]; exact nI_clamp (by omega)
    rw [hcl]
    have hq := (hf n hn12).2
    have hb := pm_F1_ne hq
    have hl := l23a (f 1 n) (pm_up x 15 1 (x 15 1 + 1)) w f hq aa (by omega)
    exact ⟨hl.1.trans (pm_up_ne h1), hl.2⟩
  · rw [if_neg h]
    exact ⟨rfl, rfl⟩
theorem ncsa (x : Nat → Nat → Int32) (w : Nat → Nat → Bool) (f : Nat → Nat → Nat) (hl : pm_ln x 15) (hf : pm_ff f) : pm_ln (csa x w f).1 15 := by
  obtain ⟨n, hn, hx⟩ := hl
  unfold csa
  by_cases h : x 15 1 < 12
  · rw [if_pos h]
    have hn12 : n < 12 := by
      rw [hx] at h
      exact (nI_ltI (by omega) (by decide)).mp h
    have hcl : (x 15 1).toNatClampNeg = n := by rw [hx]; exact nI_clamp (by omega)
    rw [hcl]
    have hq := (hf n hn12).2
    have hb := pm_F1_ne hq
    refine ⟨n + 1, by omega, ?_⟩
    rw [(l23a (f 1 n) (pm_up x 15 1 (x 15 1 + 1)) w f hq 15 (by omega)).1, pm_up_at, if_pos rfl, hx]
    exact nI_1 n
  · rw [if_neg h]
    exact ⟨n, hn, hx⟩
def caa (x : Nat → Nat → Int32) (w : Nat → Nat → Bool) (f : Nat → Nat → Nat) : (Nat → Nat → Int32) × (Nat → Nat → Bool) := if (q21a x w f).1 29 4 - (q21a x w f).1 29 4 / 5 * 5 = 0 then csa (q21a x w f).1 (q21a x w f).2 f else q21a x w f
theorem zcaa {sc : pm_Sc} (d : Nat) (x : Nat → Nat → Int32) (w : Nat → Nat → Bool) (f : Nat → Nat → Nat) (hl : pm_ln x 15) (hf : pm_ff f) : pm_call pm_Tf sc (d + 5) 21 [pm_r 29] (pm_u x w f) = some (none, pm_u (caa x w f).1 (caa x w f).2 f) := by
  refine (e21a d x w f).trans ?_
  have hl2 : pm_ln (q21a x w f).1 15 := by
    obtain ⟨n, hn, hx⟩ := hl
    exact ⟨n, hn, by rw [(l21a x w f 15 (by omega)).1]; exact hx⟩
  unfold caa
  revert hl2
  generalize q21a x w f = m
  intro hl2
  have h1 : pm_ev (pm_call pm_Tf sc (d + 4)) sc 0 pm_c21 64 [(1, .inl 8), (0, pm_r 29)] [] (pm_u m.1 m.2 f) = if m.1 29 4 - m.1 29 4 / 5 * 5 = 0 then pm_ev (pm_call pm_Tf sc (d + 4)) sc 0 pm_c21 74 [(1, .inl 8), (0, pm_r 29)] [pm_r 29] (pm_u m.1 m.2 f) else some (none, pm_u m.1 m.2 f) := (pm_ev_iter [74] 10 _ _ _ _).trans rfl
  rw [h1]
  by_cases h : m.1 29 4 - m.1 29 4 / 5 * 5 = 0
  · rw [if_pos h, if_pos h]
    have h2 : pm_ev (pm_call pm_Tf sc (d + 4)) sc 0 pm_c21 74 [(1, .inl 8), (0, pm_r 29)] [pm_r 29] (pm_u m.1 m.2 f) = pm_call1 (fun v u => pm_ev (pm_call pm_Tf sc (d + 4)) sc 0 pm_c21 77 [(1, .inl 8), (0, pm_r 29)] (v.toList ++ []) u) none (pm_call pm_Tf sc (d + 4) 23 [pm_r 29] (pm_u m.1 m.2 f)) := (pm_ev_step _ _ _ _).trans rfl
    rw [h2, pm_call1_of (zcsa d m.1 m.2 f hl2 hf)]
    exact (pm_ev_iter [] 3 _ _ _ _).trans rfl
  · rw [if_neg h, if_neg h]
def cta (x : Nat → Nat → Int32) (w : Nat → Nat → Bool) (f : Nat → Nat → Nat) : (Nat → Nat → Int32) × (Nat → Nat → Bool) := q65 (caa x w f).1 (caa x w f).2 f
def cia (f : Nat → Nat → Nat) : Nat → (Nat → Nat → Int32) × (Nat → Nat → Bool) → (Nat → Nat → Int32) × (Nat → Nat → Bool)
  | 0, z => z
  | n + 1, z => cia f n (cta z.1 z.2 f)
theorem ncta (x : Nat → Nat → Int32) (w : Nat → Nat → Bool) (f : Nat → Nat → Nat) (hl : pm_ln x 15) (hf : pm_ff f) : pm_ln (cta x w f).1 15 := by
  have hl2 : pm_ln (q21a x w f).1 15 := by
    obtain ⟨n, hn, hx⟩ := hl
    exact ⟨n, hn, by rw [(l21a x w f 15 (by omega)).1]; exact hx⟩
  have h1 : pm_ln (caa x w f).1 15 := by
    unfold caa
    by_cases h : (q21a x w f).1 29 4 - (q21a x w f).1 29 4 / 5 * 5 = 0
    · rw [if_pos h]
      exact ncsa _ _ f hl2 hf
    · rw [if_neg h]
      exact hl2
  obtain ⟨n, hn, hx⟩ := h1
  refine ⟨n, hn, ?_⟩
  unfold cta
  rw [(k65 (caa x w f).1 (caa x w f).2 f 15 (by decide)).1]
  exact hx
theorem zcia {sc : pm_Sc} (d m : Nat) (f : Nat → Nat → Nat) (hm : m ≤ 500) (hf : pm_ff f) : ∀ (r i : Nat) (z : (Nat → Nat → Int32) × (Nat → Nat → Bool)), i + r = m → pm_ln z.1 15 → pm_ev (pm_call pm_Tf sc (d + 5)) sc 1 pm_c48 29 [(4, .inl (Int32.ofNat i)), (3, pm_r 29), (0, pm_r 0), (1, .inl 0), (2, .inl (Int32.ofNat m))] [] (pm_u z.1 z.2 f) = some (some (.inl ((cia f r z).1 29 4)), pm_u (cia f r z).1 (cia f r z).2 f)
  | 0, i, z, hi, hl => by
    have e : i = m := by omega
    subst e
    have h1 : pm_ev (pm_call pm_Tf sc (d + 5)) sc 1 pm_c48 29 [(4, .inl (Int32.ofNat i)), (3, pm_r 29), (0, pm_r 0), (1, .inl 0), (2, .inl (Int32.ofNat i))] [] (pm_u z.1 z.2 f) = if Int32.ofNat i ≤ Int32.ofNat i then some (some (.inl (z.1 29 4)), pm_u z.1 z.2 f) else pm_ev (pm_call pm_Tf sc (d + 5)) sc 1 pm_c48 36 [(4, .inl (Int32.ofNat i)), (3, pm_r 29), (0, pm_r 0), (1, .inl 0), (2, .inl (Int32.ofNat i))] [pm_r 29] (pm_u z.1 z.2 f) := (pm_ev_iter [36] 20 _ _ _ _).trans rfl
    rw [h1, if_pos (show Int32.ofNat i ≤ Int32.ofNat i from nI_le (Nat.le_refl i) (by omega))]
    rfl
  | r + 1, i, z, hi, hl => by
    have h1 : pm_ev (pm_call pm_Tf sc (d + 5)) sc 1 pm_c48 29 [(4, .inl (Int32.ofNat i)), (3, pm_r 29), (0, pm_r 0), (1, .inl 0), (2, .inl (Int32.ofNat m))] [] (pm_u z.1 z.2 f) = if Int32.ofNat m ≤ Int32.ofNat i then some (some (.inl (z.1 29 4)), pm_u z.1 z.2 f) else pm_ev (pm_call pm_Tf sc (d + 5)) sc 1 pm_c48 36 [(4, .inl (Int32.ofNat i)), (3, pm_r 29), (0, pm_r 0), (1, .inl 0), (2, .inl (Int32.ofNat m))] [pm_r 29] (pm_u z.1 z.2 f) := (pm_ev_iter [36] 20 _ _ _ _).trans rfl
    have h2 : pm_ev (pm_call pm_Tf sc (d + 5)) sc 1 pm_c48 36 [(4, .inl (Int32.ofNat i)), (3, pm_r 29), (0, pm_r 0), (1, .inl 0), (2, .inl (Int32.ofNat m))] [pm_r 29] (pm_u z.1 z.2 f) = pm_call1 (fun v u => pm_ev (pm_call pm_Tf sc (d + 5)) sc 1 pm_c48 39 [(4, .inl (Int32.ofNat i)), (3, pm_r 29), (0, pm_r 0), (1, .inl 0), (2, .inl (Int32.ofNat m))] (v.toList ++ []) (u)) none (pm_call pm_Tf sc (d + 5) 21 [pm_r 29] (pm_u z.1 z.2 f)) := (pm_ev_step _ _ _ _).trans rfl
    rw [h1, if_neg (show ¬ Int32.ofNat m ≤ Int32.ofNat i from nI_ge (by omega) (by omega)), h2, pm_call1_of (zcaa d z.1 z.2 f hl hf)]
    have h3 : ∀ (y : Nat → Nat → Int32) (z0 : Nat → Nat → Bool), pm_ev (pm_call pm_Tf sc (d + 5)) sc 1 pm_c48 39 [(4, .inl (Int32.ofNat i)), (3, pm_r 29), (0, pm_r 0), (1, .inl 0), (2, .inl (Int32.ofNat m))] ((none : Option pm_V).toList ++ []) (pm_u y z0 f) = pm_ev (pm_call pm_Tf sc (d + 5)) sc 1 pm_c48 44 [(4, .inl (Int32.ofNat i)), (3, pm_r 29), (0, pm_r 0), (1, .inl 0), (2, .inl (Int32.ofNat m))] [pm_r 0] (pm_u y z0 f) := fun y z0 => (pm_ev_iter [44] 10 _ _ _ _).trans rfl
    have h4 : ∀ (y : Nat → Nat → Int32) (z0 : Nat → Nat → Bool), pm_ev (pm_call pm_Tf sc (d + 5)) sc 1 pm_c48 44 [(4, .inl (Int32.ofNat i)), (3, pm_r 29), (0, pm_r 0), (1, .inl 0), (2, .inl (Int32.ofNat m))] [pm_r 0] (pm_u y z0 f) = pm_call1 (fun v u => pm_ev (pm_call pm_Tf sc (d + 5)) sc 1 pm_c48 47 [(4, .inl (Int32.ofNat i)), (3, pm_r 29), (0, pm_r 0), (1, .inl 0), (2, .inl (Int32.ofNat m))] (v.toList ++ []) (u)) none (pm_call pm_Tf sc (d + 5) 65 [pm_r 0] (pm_u y z0 f)) := fun y z0 => (pm_ev_step _ _ _ _).trans rfl
    have h5 : ∀ (y : Nat → Nat → Int32) (z0 : Nat → Nat → Bool), pm_ev (pm_call pm_Tf sc (d + 5)) sc 1 pm_c48 47 [(4, .inl (Int32.ofNat i)), (3, pm_r 29), (0, pm_r 0), (1, .inl 0), (2, .inl (Int32.ofNat m))] ((none : Option pm_V).toList ++ []) (pm_u y z0 f) = pm_ev (pm_call pm_Tf sc (d + 5)) sc 1 pm_c48 29 [(4, .inl (Int32.ofNat i + 1)), (3, pm_r 29), (0, pm_r 0), (1, .inl 0), (2, .inl (Int32.ofNat m))] [] (pm_u y z0 f) := fun y z0 => (pm_ev_iter [29] 10 _ _ _ _).trans rfl
    rw [h3, h4, pm_call1_of (z65 (d + 3) (caa z.1 z.2 f).1 (caa z.1 z.2 f).2 f)]
    refine (h5 (cta z.1 z.2 f).1 (cta z.1 z.2 f).2).trans ?_
    rw [show Int32.ofNat i + 1 = Int32.ofNat (i + 1) from nI_1 i]
    exact zcia d m f hm hf r (i + 1) (cta z.1 z.2 f) (by omega) (ncta z.1 z.2 f hl hf)
theorem zsta {sc : pm_Sc} (d m : Nat) (x : Nat → Nat → Int32) (w : Nat → Nat → Bool) (f : Nat → Nat → Nat) (h1m : 1 ≤ m) (hm : m ≤ 500) (hl : pm_ln x 15) (hf : pm_ff f) : pm_call pm_Tf sc (d + 6) 48 [pm_r 0, .inl 0, .inl (Int32.ofNat m)] (pm_u x w f) = some (some (.inl ((cia f m (x, w)).1 29 4)), pm_u (cia f m (x, w)).1 (cia f m (x, w)).2 f) := by
  show pm_ev (pm_call pm_Tf sc (d + 5)) sc 1 pm_c48 0 [(0, pm_r 0), (1, .inl 0), (2, .inl (Int32.ofNat m))] [] (pm_u x w f) = _
  have g1 : pm_ev (pm_call pm_Tf sc (d + 5)) sc 1 pm_c48 0 [(0, pm_r 0), (1, .inl 0), (2, .inl (Int32.ofNat m))] [] (pm_u x w f) = pm_ev (pm_call pm_Tf sc (d + 5)) sc 1 pm_c48 1 [(0, pm_r 0), (1, .inl 0), (2, .inl (Int32.ofNat m))] [.inl 0] (pm_u x w f) := (pm_ev_iter [1] 3 _ _ _ _).trans rfl
  have g2 : pm_ev (pm_call pm_Tf sc (d + 5)) sc 1 pm_c48 1 [(0, pm_r 0), (1, .inl 0), (2, .inl (Int32.ofNat m))] [.inl 0] (pm_u x w f) = pm_call1 (fun v u => pm_ev (pm_call pm_Tf sc (d + 5)) sc 1 pm_c48 4 [(0, pm_r 0), (1, .inl 0), (2, .inl (Int32.ofNat m))] (v.toList ++ []) u) none (pm_call pm_Tf sc (d + 5) 69 [.inl 0] (pm_u x w f)) := (pm_ev_step _ _ _ _).trans rfl
  rw [g1, g2, pm_call1_of (z69 (d + 4) 0 x w f)]
  have g3 : pm_ev (pm_call pm_Tf sc (d + 5)) sc 1 pm_c48 4 [(0, pm_r 0), (1, .inl 0), (2, .inl (Int32.ofNat m))] ((some (pm_b (q69 0 x w f))).toList ++ []) (pm_u x w f) = pm_ev (pm_call pm_Tf sc (d + 5)) sc 1 pm_c48 12 [(0, pm_r 0), (1, .inl 0), (2, .inl (Int32.ofNat m))] [.inl 500, .inl 1, .inl (Int32.ofNat m)] (pm_u x w f) := (pm_ev_iter [12] 10 _ _ _ _).trans rfl
  have g4 : pm_ev (pm_call pm_Tf sc (d + 5)) sc 1 pm_c48 12 [(0, pm_r 0), (1, .inl 0), (2, .inl (Int32.ofNat m))] [.inl 500, .inl 1, .inl (Int32.ofNat m)] (pm_u x w f) = pm_call1 (fun v u => pm_ev (pm_call pm_Tf sc (d + 5)) sc 1 pm_c48 15 [(0, pm_r 0), (1, .inl 0), (2, .inl (Int32.ofNat m))] (v.toList ++ []) u) none (pm_call pm_Tf sc (d + 5) 71 [.inl (Int32.ofNat m), .inl 1, .inl 500] (pm_u x w f)) := (pm_ev_step _ _ _ _).trans rfl
  have hq : q71 (Int32.ofNat m) 1 500 x w f = true := by
    unfold q71
    rw [if_neg (show ¬ Int32.ofNat m < 1 from nI_nlt (b := 1) h1m (by omega)), if_neg (show ¬ (500 : Int32) < Int32.ofNat m from nI_nlt (a := 500) hm (by decide))]
  refine (g3.trans (g4.trans ((pm_call1_of (z71 (d + 5) (Int32.ofNat m) 1 500 x w f)).trans ?_)))
  rw [hq]
  have g5 : pm_ev (pm_call pm_Tf sc (d + 5)) sc 1 pm_c48 15 [(0, pm_r 0), (1, .inl 0), (2, .inl (Int32.ofNat m))] ((some (pm_b true)).toList ++ []) (pm_u x w f) = pm_ev (pm_call pm_Tf sc (d + 5)) sc 1 pm_c48 22 [(0, pm_r 0), (1, .inl 0), (2, .inl (Int32.ofNat m))] [.inl 0, pm_r 0] (pm_u x w f) := (pm_ev_iter [22] 10 _ _ _ _).trans rfl
  have g6 : pm_ev (pm_call pm_Tf sc (d + 5)) sc 1 pm_c48 22 [(0, pm_r 0), (1, .inl 0), (2, .inl (Int32.ofNat m))] [.inl 0, pm_r 0] (pm_u x w f) = pm_call1 (fun v u => pm_ev (pm_call pm_Tf sc (d + 5)) sc 1 pm_c48 25 [(0, pm_r 0), (1, .inl 0), (2, .inl (Int32.ofNat m))] (v.toList ++ []) u) none (pm_call pm_Tf sc (d + 5) 67 [pm_r 0, .inl 0] (pm_u x w f)) := (pm_ev_step _ _ _ _).trans rfl
  refine (g5.trans (g6.trans ((pm_call1_of (z670 (d + 5) x w f)).trans ?_)))
  have g7 : pm_ev (pm_call pm_Tf sc (d + 5)) sc 1 pm_c48 25 [(0, pm_r 0), (1, .inl 0), (2, .inl (Int32.ofNat m))] ((some (pm_r (q670 x w f))).toList ++ []) (pm_u x w f) = pm_ev (pm_call pm_Tf sc (d + 5)) sc 1 pm_c48 29 [(4, .inl (Int32.ofNat 0)), (3, pm_r 29), (0, pm_r 0), (1, .inl 0), (2, .inl (Int32.ofNat m))] [] (pm_u x w f) := (pm_ev_iter [29] 10 _ _ _ _).trans rfl
  exact g7.trans (zcia d m f hm hf m 0 (x, w) (by omega) hl)
def csb (x : Nat → Nat → Int32) (w : Nat → Nat → Bool) (f : Nat → Nat → Nat) : (Nat → Nat → Int32) × (Nat → Nat → Bool) := if x 1 1 < 12 then q23b (f 0 (x 1 1).toNatClampNeg) (pm_up x 1 1 (x 1 1 + 1)) w f else (x, w)
theorem zcsb {sc : pm_Sc} (d : Nat) (x : Nat → Nat → Int32) (w : Nat → Nat → Bool) (f : Nat → Nat → Nat) (hl : pm_ln x 1) (hf : pm_ff f) : pm_call pm_Tf sc (d + 4) 23 [pm_r 48] (pm_u x w f) = some (none, pm_u (csb x w f).1 (csb x w f).2 f) := by
  obtain ⟨n, hn, hx⟩ := hl
  show pm_ev (pm_call pm_Tf sc (d + 3)) sc 0 pm_c23 0 [(0, pm_r 48)] [] (pm_u x w f) = _
  have h1 : pm_ev (pm_call pm_Tf sc (d + 3)) sc 0 pm_c23 0 [(0, pm_r 48)] [] (pm_u x w f) = pm_ev (pm_call pm_Tf sc (d + 3)) sc 0 pm_c23 4 [(0, pm_r 48)] [pm_r 1] (pm_u x w f) := (pm_ev_iter [4] 5 _ _ _ _).trans rfl
  have h2 : pm_ev (pm_call pm_Tf sc (d + 3)) sc 0 pm_c23 4 [(0, pm_r 48)] [pm_r 1] (pm_u x w f) = pm_call1 (fun v u => pm_ev (pm_call pm_Tf sc (d + 3)) sc 0 pm_c23 7 [(0, pm_r 48)] (v.toList ++ []) u) none (pm_call pm_Tf sc (d + 3) 15 [pm_r 1] (pm_u x w f)) := (pm_ev_step _ _ _ _).trans rfl
  rw [h1, h2, pm_call1_of (zful0 (d + 3) x w f)]
  unfold csb
  by_cases h : x 1 1 < 12
  · rw [if_pos h, if_pos h]
    have hn12 : n < 12 := by
      rw [hx] at h
      exact (nI_ltI (by omega) (by decide)).mp h
    have h3 : pm_ev (pm_call pm_Tf sc (d + 3)) sc 0 pm_c23 7 [(0, pm_r 48)] ((some (pm_b false)).toList ++ []) (pm_u x w f) = pm_ev (pm_call pm_Tf sc (d + 3)) sc 0 pm_c23 15 [(0, pm_r 48)] [pm_r 1] (pm_u x w f) := (pm_ev_iter [15] 5 _ _ _ _).trans rfl
    have h4 : pm_ev (pm_call pm_Tf sc (d + 3)) sc 0 pm_c23 15 [(0, pm_r 48)] [pm_r 1] (pm_u x w f) = pm_call1 (fun v u => pm_ev (pm_call pm_Tf sc (d + 3)) sc 0 pm_c23 18 [(0, pm_r 48)] (v.toList ++ []) u) none (pm_call pm_Tf sc (d + 3) 16 [pm_r 1] (pm_u x w f)) := (pm_ev_step _ _ _ _).trans rfl
    rw [h3, h4, pm_call1_of (zlen0 (d + 3) x w f n hx hn12)]
    have hcl : (x 1 1).toNatClampNeg = n := by rw [hx]; exact nI_clamp (by omega)
    rw [hcl, show x 1 1 + 1 = Int32.ofNat (n + 1) by rw [hx]; exact nI_1 n]
    exact e23b d (f 0 n) _ w f (hf n hn12).1
  · rw [if_neg h, if_neg h]
    exact (pm_ev_iter [] 5 _ _ _ _).trans rfl
theorem lcsb (x : Nat → Nat → Int32) (w : Nat → Nat → Bool) (f : Nat → Nat → Nat) (hl : pm_ln x 1) (hf : pm_ff f) : ∀ aa : Nat, aa ≠ 1 → ¬ (3 ≤ aa ∧ aa ≤ 14) → (csb x w f).1 aa = x aa ∧ (csb x w f).2 aa = w aa := by
  intro aa h1 h2
  obtain ⟨n, hn, hx⟩ := hl
  unfold csb
  by_cases h : x 1 1 < 12
  · rw [if_pos h]
    have hn12 : n < 12 := by
      rw [hx] at h
      exact (nI_ltI (by omega) (by decide)).mp h
    have hcl : (x 1 1).toNatClampNeg = n := by rw [hx]; exact nI_clamp (by omega)
    rw [hcl]
    have hq := (hf n hn12).1
    have hb := pm_F0_ne hq
    have hl := l23b (f 0 n) (pm_up x 1 1 (x 1 1 + 1)) w f hq aa (by omega)
    exact ⟨hl.1.trans (pm_up_ne h1), hl.2⟩
  · rw [if_neg h]
    exact ⟨rfl, rfl⟩
theorem ncsb (x : Nat → Nat → Int32) (w : Nat → Nat → Bool) (f : Nat → Nat → Nat) (hl : pm_ln x 1) (hf : pm_ff f) : pm_ln (csb x w f).1 1 := by
  obtain ⟨n, hn, hx⟩ := hl
  unfold csb
  by_cases h : x 1 1 < 12
  · rw [if_pos h]
    have hn12 : n < 12 := by
      rw [hx] at h
      exact (nI_ltI (by omega) (by decide)).mp h
    have hcl : (x 1 1).toNatClampNeg = n := by rw [hx]; exact nI_clamp (by omega)
    rw [hcl]
    have hq := (hf n hn12).1
    have hb := pm_F0_ne hq
    refine ⟨n + 1, by omega, ?_⟩
    rw [(l23b (f 0 n) (pm_up x 1 1 (x 1 1 + 1)) w f hq 1 (by omega)).1, pm_up_at, if_pos rfl, hx]
    exact nI_1 n
  · rw [if_neg h]
    exact ⟨n, hn, hx⟩
def cab (x : Nat → Nat → Int32) (w : Nat → Nat → Bool) (f : Nat → Nat → Nat) : (Nat → Nat → Int32) × (Nat → Nat → Bool) := if (q21b x w f).1 48 4 - (q21b x w f).1 48 4 / 5 * 5 = 0 then csb (q21b x w f).1 (q21b x w f).2 f else q21b x w f
theorem zcab {sc : pm_Sc} (d : Nat) (x : Nat → Nat → Int32) (w : Nat → Nat → Bool) (f : Nat → Nat → Nat) (hl : pm_ln x 1) (hf : pm_ff f) : pm_call pm_Tf sc (d + 5) 21 [pm_r 48] (pm_u x w f) = some (none, pm_u (cab x w f).1 (cab x w f).2 f) := by
  refine (e21b d x w f).trans ?_
  have hl2 : pm_ln (q21b x w f).1 1 := by
    obtain ⟨n, hn, hx⟩ := hl
    exact ⟨n, hn, by rw [(l21b x w f 1 (by omega)).1]; exact hx⟩
  unfold cab
  revert hl2
  generalize q21b x w f = m
  intro hl2
  have h1 : pm_ev (pm_call pm_Tf sc (d + 4)) sc 0 pm_c21 64 [(1, .inl 8), (0, pm_r 48)] [] (pm_u m.1 m.2 f) = if m.1 48 4 - m.1 48 4 / 5 * 5 = 0 then pm_ev (pm_call pm_Tf sc (d + 4)) sc 0 pm_c21 74 [(1, .inl 8), (0, pm_r 48)] [pm_r 48] (pm_u m.1 m.2 f) else some (none, pm_u m.1 m.2 f) := (pm_ev_iter [74] 10 _ _ _ _).trans rfl
  rw [h1]
  by_cases h : m.1 48 4 - m.1 48 4 / 5 * 5 = 0
  · rw [if_pos h, if_pos h]
    have h2 : pm_ev (pm_call pm_Tf sc (d + 4)) sc 0 pm_c21 74 [(1, .inl 8), (0, pm_r 48)] [pm_r 48] (pm_u m.1 m.2 f) = pm_call1 (fun v u => pm_ev (pm_call pm_Tf sc (d + 4)) sc 0 pm_c21 77 [(1, .inl 8), (0, pm_r 48)] (v.toList ++ []) u) none (pm_call pm_Tf sc (d + 4) 23 [pm_r 48] (pm_u m.1 m.2 f)) := (pm_ev_step _ _ _ _).trans rfl
    rw [h2, pm_call1_of (zcsb d m.1 m.2 f hl2 hf)]
    exact (pm_ev_iter [] 3 _ _ _ _).trans rfl
  · rw [if_neg h, if_neg h]
def ctb (x : Nat → Nat → Int32) (w : Nat → Nat → Bool) (f : Nat → Nat → Nat) : (Nat → Nat → Int32) × (Nat → Nat → Bool) := q66 (cab x w f).1 (cab x w f).2 f
def cib (f : Nat → Nat → Nat) : Nat → (Nat → Nat → Int32) × (Nat → Nat → Bool) → (Nat → Nat → Int32) × (Nat → Nat → Bool)
  | 0, z => z
  | n + 1, z => cib f n (ctb z.1 z.2 f)
theorem nctb (x : Nat → Nat → Int32) (w : Nat → Nat → Bool) (f : Nat → Nat → Nat) (hl : pm_ln x 1) (hf : pm_ff f) : pm_ln (ctb x w f).1 1 := by
  have hl2 : pm_ln (q21b x w f).1 1 := by
    obtain ⟨n, hn, hx⟩ := hl
    exact ⟨n, hn, by rw [(l21b x w f 1 (by omega)).1]; exact hx⟩
  have h1 : pm_ln (cab x w f).1 1 := by
    unfold cab
    by_cases h : (q21b x w f).1 48 4 - (q21b x w f).1 48 4 / 5 * 5 = 0
    · rw [if_pos h]
      exact ncsb _ _ f hl2 hf
    · rw [if_neg h]
      exact hl2
  obtain ⟨n, hn, hx⟩ := h1
  refine ⟨n, hn, ?_⟩
  unfold ctb
  rw [(k66 (cab x w f).1 (cab x w f).2 f 1 (by decide)).1]
  exact hx
theorem zcib {sc : pm_Sc} (d m : Nat) (f : Nat → Nat → Nat) (hm : m ≤ 500) (hf : pm_ff f) : ∀ (r i : Nat) (z : (Nat → Nat → Int32) × (Nat → Nat → Bool)), i + r = m → pm_ln z.1 1 → pm_ev (pm_call pm_Tf sc (d + 5)) sc 1 pm_c48 29 [(4, .inl (Int32.ofNat i)), (3, pm_r 48), (0, pm_r 0), (1, .inl 1), (2, .inl (Int32.ofNat m))] [] (pm_u z.1 z.2 f) = some (some (.inl ((cib f r z).1 48 4)), pm_u (cib f r z).1 (cib f r z).2 f)
  | 0, i, z, hi, hl => by
    have e : i = m := by omega
    subst e
    have h1 : pm_ev (pm_call pm_Tf sc (d + 5)) sc 1 pm_c48 29 [(4, .inl (Int32.ofNat i)), (3, pm_r 48), (0, pm_r 0), (1, .inl 1), (2, .inl (Int32.ofNat i))] [] (pm_u z.1 z.2 f) = if Int32.ofNat i ≤ Int32.ofNat i then some (some (.inl (z.1 48 4)), pm_u z.1 z.2 f) else pm_ev (pm_call pm_Tf sc (d + 5)) sc 1 pm_c48 36 [(4, .inl (Int32.ofNat i)), (3, pm_r 48), (0, pm_r 0), (1, .inl 1), (2, .inl (Int32.ofNat i))] [pm_r 48] (pm_u z.1 z.2 f) := (pm_ev_iter [36] 20 _ _ _ _).trans rfl
    rw [h1, if_pos (show Int32.ofNat i ≤ Int32.ofNat i from nI_le (Nat.le_refl i) (by omega))]
    rfl
  | r + 1, i, z, hi, hl => by
    have h1 : pm_ev (pm_call pm_Tf sc (d + 5)) sc 1 pm_c48 29 [(4, .inl (Int32.ofNat i)), (3, pm_r 48), (0, pm_r 0), (1, .inl 1), (2, .inl (Int32.ofNat m))] [] (pm_u z.1 z.2 f) = if Int32.ofNat m ≤ Int32.ofNat i then some (some (.inl (z.1 48 4)), pm_u z.1 z.2 f) else pm_ev (pm_call pm_Tf sc (d + 5)) sc 1 pm_c48 36 [(4, .inl (Int32.ofNat i)), (3, pm_r 48), (0, pm_r 0), (1, .inl 1), (2, .inl (Int32.ofNat m))] [pm_r 48] (pm_u z.1 z.2 f) := (pm_ev_iter [36] 20 _ _ _ _).trans rfl
    have h2 : pm_ev (pm_call pm_Tf sc (d + 5)) sc 1 pm_c48 36 [(4, .inl (Int32.ofNat i)), (3, pm_r 48), (0, pm_r 0), (1, .inl 1), (2, .inl (Int32.ofNat m))] [pm_r 48] (pm_u z.1 z.2 f) = pm_call1 (fun v u => pm_ev (pm_call pm_Tf sc (d + 5)) sc 1 pm_c48 39 [(4, .inl (Int32.ofNat i)), (3, pm_r 48), (0, pm_r 0), (1, .inl 1), (2, .inl (Int32.ofNat m))] (v.toList ++ []) (u)) none (pm_call pm_Tf sc (d + 5) 21 [pm_r 48] (pm_u z.1 z.2 f)) := (pm_ev_step _ _ _ _).trans rfl
    rw [h1, if_neg (show ¬ Int32.ofNat m ≤ Int32.ofNat i from nI_ge (by omega) (by omega)), h2, pm_call1_of (zcab d z.1 z.2 f hl hf)]
    have h3 : ∀ (y : Nat → Nat → Int32) (z0 : Nat → Nat → Bool), pm_ev (pm_call pm_Tf sc (d + 5)) sc 1 pm_c48 39 [(4, .inl (Int32.ofNat i)), (3, pm_r 48), (0, pm_r 0), (1, .inl 1), (2, .inl (Int32.ofNat m))] ((none : Option pm_V).toList ++ []) (pm_u y z0 f) = pm_ev (pm_call pm_Tf sc (d + 5)) sc 1 pm_c48 51 [(4, .inl (Int32.ofNat i)), (3, pm_r 48), (0, pm_r 0), (1, .inl 1), (2, .inl (Int32.ofNat m))] [pm_r 0] (pm_u y z0 f) := fun y z0 => (pm_ev_iter [51] 10 _ _ _ _).trans rfl
    have h4 : ∀ (y : Nat → Nat → Int32) (z0 : Nat → Nat → Bool), pm_ev (pm_call pm_Tf sc (d + 5)) sc 1 pm_c48 51 [(4, .inl (Int32.ofNat i)), (3, pm_r 48), (0, pm_r 0), (1, .inl 1), (2, .inl (Int32.ofNat m))] [pm_r 0] (pm_u y z0 f) = pm_call1 (fun v u => pm_ev (pm_call pm_Tf sc (d + 5)) sc 1 pm_c48 54 [(4, .inl (Int32.ofNat i)), (3, pm_r 48), (0, pm_r 0), (1, .inl 1), (2, .inl (Int32.ofNat m))] (v.toList ++ []) (u)) none (pm_call pm_Tf sc (d + 5) 66 [pm_r 0] (pm_u y z0 f)) := fun y z0 => (pm_ev_step _ _ _ _).trans rfl
    have h5 : ∀ (y : Nat → Nat → Int32) (z0 : Nat → Nat → Bool), pm_ev (pm_call pm_Tf sc (d + 5)) sc 1 pm_c48 54 [(4, .inl (Int32.ofNat i)), (3, pm_r 48), (0, pm_r 0), (1, .inl 1), (2, .inl (Int32.ofNat m))] ((none : Option pm_V).toList ++ []) (pm_u y z0 f) = pm_ev (pm_call pm_Tf sc (d + 5)) sc 1 pm_c48 29 [(4, .inl (Int32.ofNat i + 1)), (3, pm_r 48), (0, pm_r 0), (1, .inl 1), (2, .inl (Int32.ofNat m))] [] (pm_u y z0 f) := fun y z0 => (pm_ev_iter [29] 10 _ _ _ _).trans rfl
    rw [h3, h4, pm_call1_of (z66 (d + 5) (cab z.1 z.2 f).1 (cab z.1 z.2 f).2 f)]
    refine (h5 (ctb z.1 z.2 f).1 (ctb z.1 z.2 f).2).trans ?_
    rw [show Int32.ofNat i + 1 = Int32.ofNat (i + 1) from nI_1 i]
    exact zcib d m f hm hf r (i + 1) (ctb z.1 z.2 f) (by omega) (nctb z.1 z.2 f hl hf)
theorem zstb {sc : pm_Sc} (d m : Nat) (x : Nat → Nat → Int32) (w : Nat → Nat → Bool) (f : Nat → Nat → Nat) (h1m : 1 ≤ m) (hm : m ≤ 500) (hl : pm_ln x 1) (hf : pm_ff f) : pm_call pm_Tf sc (d + 6) 48 [pm_r 0, .inl 1, .inl (Int32.ofNat m)] (pm_u x w f) = some (some (.inl ((cib f m (x, w)).1 48 4)), pm_u (cib f m (x, w)).1 (cib f m (x, w)).2 f) := by
  show pm_ev (pm_call pm_Tf sc (d + 5)) sc 1 pm_c48 0 [(0, pm_r 0), (1, .inl 1), (2, .inl (Int32.ofNat m))] [] (pm_u x w f) = _
  have g1 : pm_ev (pm_call pm_Tf sc (d + 5)) sc 1 pm_c48 0 [(0, pm_r 0), (1, .inl 1), (2, .inl (Int32.ofNat m))] [] (pm_u x w f) = pm_ev (pm_call pm_Tf sc (d + 5)) sc 1 pm_c48 1 [(0, pm_r 0), (1, .inl 1), (2, .inl (Int32.ofNat m))] [.inl 1] (pm_u x w f) := (pm_ev_iter [1] 3 _ _ _ _).trans rfl
  have g2 : pm_ev (pm_call pm_Tf sc (d + 5)) sc 1 pm_c48 1 [(0, pm_r 0), (1, .inl 1), (2, .inl (Int32.ofNat m))] [.inl 1] (pm_u x w f) = pm_call1 (fun v u => pm_ev (pm_call pm_Tf sc (d + 5)) sc 1 pm_c48 4 [(0, pm_r 0), (1, .inl 1), (2, .inl (Int32.ofNat m))] (v.toList ++ []) u) none (pm_call pm_Tf sc (d + 5) 69 [.inl 1] (pm_u x w f)) := (pm_ev_step _ _ _ _).trans rfl
  rw [g1, g2, pm_call1_of (z69 (d + 4) 1 x w f)]
  have g3 : pm_ev (pm_call pm_Tf sc (d + 5)) sc 1 pm_c48 4 [(0, pm_r 0), (1, .inl 1), (2, .inl (Int32.ofNat m))] ((some (pm_b (q69 1 x w f))).toList ++ []) (pm_u x w f) = pm_ev (pm_call pm_Tf sc (d + 5)) sc 1 pm_c48 12 [(0, pm_r 0), (1, .inl 1), (2, .inl (Int32.ofNat m))] [.inl 500, .inl 1, .inl (Int32.ofNat m)] (pm_u x w f) := (pm_ev_iter [12] 10 _ _ _ _).trans rfl
  have g4 : pm_ev (pm_call pm_Tf sc (d + 5)) sc 1 pm_c48 12 [(0, pm_r 0), (1, .inl 1), (2, .inl (Int32.ofNat m))] [.inl 500, .inl 1, .inl (Int32.ofNat m)] (pm_u x w f) = pm_call1 (fun v u => pm_ev (pm_call pm_Tf sc (d + 5)) sc 1 pm_c48 15 [(0, pm_r 0), (1, .inl 1), (2, .inl (Int32.ofNat m))] (v.toList ++ []) u) none (pm_call pm_Tf sc (d + 5) 71 [.inl (Int32.ofNat m), .inl 1, .inl 500] (pm_u x w f)) := (pm_ev_step _ _ _ _).trans rfl
  have hq : q71 (Int32.ofNat m) 1 500 x w f = true := by
    unfold q71
    rw [if_neg (show ¬ Int32.ofNat m < 1 from nI_nlt (b := 1) h1m (by omega)), if_neg (show ¬ (500 : Int32) < Int32.ofNat m from nI_nlt (a := 500) hm (by decide))]
  refine (g3.trans (g4.trans ((pm_call1_of (z71 (d + 5) (Int32.ofNat m) 1 500 x w f)).trans ?_)))
  rw [hq]
  have g5 : pm_ev (pm_call pm_Tf sc (d + 5)) sc 1 pm_c48 15 [(0, pm_r 0), (1, .inl 1), (2, .inl (Int32.ofNat m))] ((some (pm_b true)).toList ++ []) (pm_u x w f) = pm_ev (pm_call pm_Tf sc (d + 5)) sc 1 pm_c48 22 [(0, pm_r 0), (1, .inl 1), (2, .inl (Int32.ofNat m))] [.inl 1, pm_r 0] (pm_u x w f) := (pm_ev_iter [22] 10 _ _ _ _).trans rfl
  have g6 : pm_ev (pm_call pm_Tf sc (d + 5)) sc 1 pm_c48 22 [(0, pm_r 0), (1, .inl 1), (2, .inl (Int32.ofNat m))] [.inl 1, pm_r 0] (pm_u x w f) = pm_call1 (fun v u => pm_ev (pm_call pm_Tf sc (d + 5)) sc 1 pm_c48 25 [(0, pm_r 0), (1, .inl 1), (2, .inl (Int32.ofNat m))] (v.toList ++ []) u) none (pm_call pm_Tf sc (d + 5) 67 [pm_r 0, .inl 1] (pm_u x w f)) := (pm_ev_step _ _ _ _).trans rfl
  refine (g5.trans (g6.trans ((pm_call1_of (z671 (d + 5) x w f)).trans ?_)))
  have g7 : pm_ev (pm_call pm_Tf sc (d + 5)) sc 1 pm_c48 25 [(0, pm_r 0), (1, .inl 1), (2, .inl (Int32.ofNat m))] ((some (pm_r (q671 x w f))).toList ++ []) (pm_u x w f) = pm_ev (pm_call pm_Tf sc (d + 5)) sc 1 pm_c48 29 [(4, .inl (Int32.ofNat 0)), (3, pm_r 48), (0, pm_r 0), (1, .inl 1), (2, .inl (Int32.ofNat m))] [] (pm_u x w f) := (pm_ev_iter [29] 10 _ _ _ _).trans rfl
  exact g7.trans (zcib d m f hm hf m 0 (x, w) (by omega) hl)

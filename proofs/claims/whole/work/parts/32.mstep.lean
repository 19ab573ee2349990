/-! The reference's step. -/
def pm_mn (x : Nat → Nat → Int32) (s : Nat) : Prop := ∃ n, n ≤ 12 ∧ x 74 s = Int32.ofNat n
def ms0 (x : Nat → Nat → Int32) (w : Nat → Nat → Bool) (f : Nat → Nat → Nat) : (Nat → Nat → Int32) × (Nat → Nat → Bool) := if x 74 1 = 12 then q890f x w f else q890 (x 74 1).toNatClampNeg x w f
theorem zms0 {sc : pm_Sc} (d : Nat) (x : Nat → Nat → Int32) (w : Nat → Nat → Bool) (f : Nat → Nat → Nat) (hl : pm_mn x 1) : pm_call pm_Tf sc (d + 4) 89 [pm_r 67, .inl 0] (pm_u x w f) = some (none, pm_u (ms0 x w f).1 (ms0 x w f).2 f) := by
  obtain ⟨n, hn, hx⟩ := hl
  unfold ms0
  by_cases h : x 74 1 = 12
  · rw [if_pos h]
    have h1 := z890f (sc := sc) d x w f
    rw [pm_up_same h] at h1
    exact h1
  · rw [if_neg h]
    have hn12 : n < 12 := by
      rcases Nat.lt_or_ge n 12 with q | q
      · exact q
      · exfalso
        apply h
        rw [hx, show n = 12 by omega]
        rfl
    have hcl : (x 74 1).toNatClampNeg = n := by rw [hx]; exact nI_clamp (by omega)
    rw [hcl]
    have h1 := z890 (sc := sc) d n x w f hn12
    rw [pm_up_same hx] at h1
    exact h1
theorem lms0 (x : Nat → Nat → Int32) (w : Nat → Nat → Bool) (f : Nat → Nat → Nat) (hl : pm_mn x 1) : ∀ aa : Nat, aa ≠ 74 → aa ≠ 75 → (ms0 x w f).1 aa = x aa ∧ (ms0 x w f).2 aa = w aa := by
  intro aa h1 h2
  obtain ⟨n, hn, hx⟩ := hl
  unfold ms0
  by_cases h : x 74 1 = 12
  · rw [if_pos h]
    exact l890f x w f aa ⟨h1, h2⟩
  · rw [if_neg h]
    have hn12 : n < 12 := by
      rcases Nat.lt_or_ge n 12 with q | q
      · exact q
      · exfalso
        apply h
        rw [hx, show n = 12 by omega]
        rfl
    have hcl : (x 74 1).toNatClampNeg = n := by rw [hx]; exact nI_clamp (by omega)
    rw [hcl]
    exact l890 n x w f hn12 aa ⟨h1, h2⟩
def mt0 (x : Nat → Nat → Int32) (w : Nat → Nat → Bool) (f : Nat → Nat → Nat) : (Nat → Nat → Int32) × (Nat → Nat → Bool) := q90t0 (q900 x w f).1 (ms0 (q900 x w f).2.1 (q900 x w f).2.2 f).1 (ms0 (q900 x w f).2.1 (q900 x w f).2.2 f).2 f
theorem zmt0 {sc : pm_Sc} (d : Nat) (x : Nat → Nat → Int32) (w : Nat → Nat → Bool) (f : Nat → Nat → Nat) (hl : pm_mn x 1) : pm_call pm_Tf sc (d + 5) 90 [pm_r 67, .inl 0] (pm_u x w f) = some (none, pm_u (mt0 x w f).1 (mt0 x w f).2 f) := by
  refine (e900 d x w f).trans ?_
  have hl2 : pm_mn (q900 x w f).2.1 1 := by
    obtain ⟨n, hn, hx⟩ := hl
    exact ⟨n, hn, by rw [(l900 x w f 74 (by omega)).1]; exact hx⟩
  unfold mt0
  revert hl2
  generalize q900 x w f = t
  intro hl2
  have h1 : pm_ev (pm_call pm_Tf sc (d + 4)) sc 0 pm_c90 84 [(3, .inl 8), (2, .inl t.1), (0, pm_r 67), (1, .inl 0)] [] (pm_u t.2.1 t.2.2 f) = pm_ev (pm_call pm_Tf sc (d + 4)) sc 0 pm_c90 86 [(3, .inl 8), (2, .inl t.1), (0, pm_r 67), (1, .inl 0)] [.inl 0, pm_r 67] (pm_u t.2.1 t.2.2 f) := (pm_ev_iter [86] 5 _ _ _ _).trans rfl
  have h2 : pm_ev (pm_call pm_Tf sc (d + 4)) sc 0 pm_c90 86 [(3, .inl 8), (2, .inl t.1), (0, pm_r 67), (1, .inl 0)] [.inl 0, pm_r 67] (pm_u t.2.1 t.2.2 f) = pm_call1 (fun v u => pm_ev (pm_call pm_Tf sc (d + 4)) sc 0 pm_c90 89 [(3, .inl 8), (2, .inl t.1), (0, pm_r 67), (1, .inl 0)] (v.toList ++ []) u) none (pm_call pm_Tf sc (d + 4) 89 [pm_r 67, .inl 0] (pm_u t.2.1 t.2.2 f)) := (pm_ev_step _ _ _ _).trans rfl
  rw [h1, h2, pm_call1_of (zms0 d t.2.1 t.2.2 f hl2)]
  exact e90t0 d t.1 _ _ f
def mi0 (f : Nat → Nat → Nat) : Nat → (Nat → Nat → Int32) × (Nat → Nat → Bool) → (Nat → Nat → Int32) × (Nat → Nat → Bool)
  | 0, z => z
  | n + 1, z => mi0 f n (mt0 z.1 z.2 f)
theorem zmi0 {sc : pm_Sc} (d m : Nat) (f : Nat → Nat → Nat) (hm : m ≤ 500) (hp : ∀ x w, pm_mn x 1 → pm_mn (mt0 x w f).1 1) : ∀ (r i : Nat) (z : (Nat → Nat → Int32) × (Nat → Nat → Bool)), i + r = m → pm_mn z.1 1 → pm_ev (pm_call pm_Tf sc (d + 5)) sc 1 pm_c92 23 [(3, .inl (Int32.ofNat i)), (0, pm_r 67), (1, .inl 0), (2, .inl (Int32.ofNat m))] [] (pm_u z.1 z.2 f) = some (some (.inl ((mi0 f r z).1 68 0)), pm_u (mi0 f r z).1 (mi0 f r z).2 f)
  | 0, i, z, hi, hl => by
    have e : i = m := by omega
    subst e
    have h1 : pm_ev (pm_call pm_Tf sc (d + 5)) sc 1 pm_c92 23 [(3, .inl (Int32.ofNat i)), (0, pm_r 67), (1, .inl 0), (2, .inl (Int32.ofNat i))] [] (pm_u z.1 z.2 f) = if Int32.ofNat i ≤ Int32.ofNat i then some (some (.inl (z.1 68 0)), pm_u z.1 z.2 f) else pm_ev (pm_call pm_Tf sc (d + 5)) sc 1 pm_c92 30 [(3, .inl (Int32.ofNat i)), (0, pm_r 67), (1, .inl 0), (2, .inl (Int32.ofNat i))] [.inl 0, pm_r 67] (pm_u z.1 z.2 f) := (pm_ev_iter [30] 20 _ _ _ _).trans rfl
    rw [h1, if_pos (show Int32.ofNat i ≤ Int32.ofNat i from nI_le (Nat.le_refl i) (by omega))]
    rfl
  | r + 1, i, z, hi, hl => by
    have h1 : pm_ev (pm_call pm_Tf sc (d + 5)) sc 1 pm_c92 23 [(3, .inl (Int32.ofNat i)), (0, pm_r 67), (1, .inl 0), (2, .inl (Int32.ofNat m))] [] (pm_u z.1 z.2 f) = if Int32.ofNat m ≤ Int32.ofNat i then some (some (.inl (z.1 68 0)), pm_u z.1 z.2 f) else pm_ev (pm_call pm_Tf sc (d + 5)) sc 1 pm_c92 30 [(3, .inl (Int32.ofNat i)), (0, pm_r 67), (1, .inl 0), (2, .inl (Int32.ofNat m))] [.inl 0, pm_r 67] (pm_u z.1 z.2 f) := (pm_ev_iter [30] 20 _ _ _ _).trans rfl
    have h2 : pm_ev (pm_call pm_Tf sc (d + 5)) sc 1 pm_c92 30 [(3, .inl (Int32.ofNat i)), (0, pm_r 67), (1, .inl 0), (2, .inl (Int32.ofNat m))] [.inl 0, pm_r 67] (pm_u z.1 z.2 f) = pm_call1 (fun v u => pm_ev (pm_call pm_Tf sc (d + 5)) sc 1 pm_c92 33 [(3, .inl (Int32.ofNat i)), (0, pm_r 67), (1, .inl 0), (2, .inl (Int32.ofNat m))] (v.toList ++ []) (u)) none (pm_call pm_Tf sc (d + 5) 90 [pm_r 67, .inl 0] (pm_u z.1 z.2 f)) := (pm_ev_step _ _ _ _).trans rfl
    have h3 : ∀ (y : Nat → Nat → Int32) (z0 : Nat → Nat → Bool), pm_ev (pm_call pm_Tf sc (d + 5)) sc 1 pm_c92 33 [(3, .inl (Int32.ofNat i)), (0, pm_r 67), (1, .inl 0), (2, .inl (Int32.ofNat m))] ((none : Option pm_V).toList ++ []) (pm_u y z0 f) = pm_ev (pm_call pm_Tf sc (d + 5)) sc 1 pm_c92 23 [(3, .inl (Int32.ofNat i + 1)), (0, pm_r 67), (1, .inl 0), (2, .inl (Int32.ofNat m))] [] (pm_u y z0 f) := fun y z0 => (pm_ev_iter [23] 10 _ _ _ _).trans rfl
    rw [h1, if_neg (show ¬ Int32.ofNat m ≤ Int32.ofNat i from nI_ge (by omega) (by omega)), h2, pm_call1_of (zmt0 d z.1 z.2 f hl), h3]
    rw [show Int32.ofNat i + 1 = Int32.ofNat (i + 1) from nI_1 i]
    exact zmi0 d m f hm hp r (i + 1) (mt0 z.1 z.2 f) (by omega) (hp z.1 z.2 hl)
theorem zmst0 {sc : pm_Sc} (d m : Nat) (x : Nat → Nat → Int32) (w : Nat → Nat → Bool) (f : Nat → Nat → Nat) (h1m : 1 ≤ m) (hm : m ≤ 500) (hp : ∀ x w, pm_mn x 1 → pm_mn (mt0 x w f).1 1) (hl : pm_mn x 1) : pm_call pm_Tf sc (d + 6) 92 [pm_r 67, .inl 0, .inl (Int32.ofNat m)] (pm_u x w f) = some (some (.inl ((mi0 f m (x, w)).1 68 0)), pm_u (mi0 f m (x, w)).1 (mi0 f m (x, w)).2 f) := by
  show pm_ev (pm_call pm_Tf sc (d + 5)) sc 1 pm_c92 0 [(0, pm_r 67), (1, .inl 0), (2, .inl (Int32.ofNat m))] [] (pm_u x w f) = _
  have g1 : pm_ev (pm_call pm_Tf sc (d + 5)) sc 1 pm_c92 0 [(0, pm_r 67), (1, .inl 0), (2, .inl (Int32.ofNat m))] [] (pm_u x w f) = pm_ev (pm_call pm_Tf sc (d + 5)) sc 1 pm_c92 1 [(0, pm_r 67), (1, .inl 0), (2, .inl (Int32.ofNat m))] [.inl 0] (pm_u x w f) := (pm_ev_iter [1] 3 _ _ _ _).trans rfl
  have g2 : pm_ev (pm_call pm_Tf sc (d + 5)) sc 1 pm_c92 1 [(0, pm_r 67), (1, .inl 0), (2, .inl (Int32.ofNat m))] [.inl 0] (pm_u x w f) = pm_call1 (fun v u => pm_ev (pm_call pm_Tf sc (d + 5)) sc 1 pm_c92 4 [(0, pm_r 67), (1, .inl 0), (2, .inl (Int32.ofNat m))] (v.toList ++ []) u) none (pm_call pm_Tf sc (d + 5) 91 [.inl 0] (pm_u x w f)) := (pm_ev_step _ _ _ _).trans rfl
  refine g1.trans (g2.trans ((pm_call1_of (z91 (d + 5) 0 x w f)).trans ?_))
  have g3 : pm_ev (pm_call pm_Tf sc (d + 5)) sc 1 pm_c92 4 [(0, pm_r 67), (1, .inl 0), (2, .inl (Int32.ofNat m))] ((some (pm_b (q91 0 x w f))).toList ++ []) (pm_u x w f) = if Int32.ofNat m < 1 then some (some (.inl (-1)), pm_u x w f) else if Int32.ofNat m ≤ 500 then pm_ev (pm_call pm_Tf sc (d + 5)) sc 1 pm_c92 23 [(3, .inl (Int32.ofNat 0)), (0, pm_r 67), (1, .inl 0), (2, .inl (Int32.ofNat m))] [] (pm_u x w f) else some (some (.inl (-1)), pm_u x w f) := (pm_ev_iter [23] 20 _ _ _ _).trans rfl
  refine g3.trans ?_
  rw [if_neg (show ¬ Int32.ofNat m < 1 from nI_nlt (b := 1) h1m (by omega)), if_pos (show Int32.ofNat m ≤ 500 from nI_le (b := 500) hm (by decide))]
  exact zmi0 d m f hm hp m 0 (x, w) (by omega) hl
def ms1 (x : Nat → Nat → Int32) (w : Nat → Nat → Bool) (f : Nat → Nat → Nat) : (Nat → Nat → Int32) × (Nat → Nat → Bool) := if x 74 0 = 12 then q891f x w f else q891 (x 74 0).toNatClampNeg x w f
theorem zms1 {sc : pm_Sc} (d : Nat) (x : Nat → Nat → Int32) (w : Nat → Nat → Bool) (f : Nat → Nat → Nat) (hl : pm_mn x 0) : pm_call pm_Tf sc (d + 4) 89 [pm_r 67, .inl 1] (pm_u x w f) = some (none, pm_u (ms1 x w f).1 (ms1 x w f).2 f) := by
  obtain ⟨n, hn, hx⟩ := hl
  unfold ms1
  by_cases h : x 74 0 = 12
  · rw [if_pos h]
    have h1 := z891f (sc := sc) d x w f
    rw [pm_up_same h] at h1
    exact h1
  · rw [if_neg h]
    have hn12 : n < 12 := by
      rcases Nat.lt_or_ge n 12 with q | q
      · exact q
      · exfalso
        apply h
        rw [hx, show n = 12 by omega]
        rfl
    have hcl : (x 74 0).toNatClampNeg = n := by rw [hx]; exact nI_clamp (by omega)
    rw [hcl]
    have h1 := z891 (sc := sc) d n x w f hn12
    rw [pm_up_same hx] at h1
    exact h1
theorem lms1 (x : Nat → Nat → Int32) (w : Nat → Nat → Bool) (f : Nat → Nat → Nat) (hl : pm_mn x 0) : ∀ aa : Nat, aa ≠ 74 → aa ≠ 75 → (ms1 x w f).1 aa = x aa ∧ (ms1 x w f).2 aa = w aa := by
  intro aa h1 h2
  obtain ⟨n, hn, hx⟩ := hl
  unfold ms1
  by_cases h : x 74 0 = 12
  · rw [if_pos h]
    exact l891f x w f aa ⟨h1, h2⟩
  · rw [if_neg h]
    have hn12 : n < 12 := by
      rcases Nat.lt_or_ge n 12 with q | q
      · exact q
      · exfalso
        apply h
        rw [hx, show n = 12 by omega]
        rfl
    have hcl : (x 74 0).toNatClampNeg = n := by rw [hx]; exact nI_clamp (by omega)
    rw [hcl]
    exact l891 n x w f hn12 aa ⟨h1, h2⟩
def mt1 (x : Nat → Nat → Int32) (w : Nat → Nat → Bool) (f : Nat → Nat → Nat) : (Nat → Nat → Int32) × (Nat → Nat → Bool) := q90t1 (q901 x w f).1 (ms1 (q901 x w f).2.1 (q901 x w f).2.2 f).1 (ms1 (q901 x w f).2.1 (q901 x w f).2.2 f).2 f
theorem zmt1 {sc : pm_Sc} (d : Nat) (x : Nat → Nat → Int32) (w : Nat → Nat → Bool) (f : Nat → Nat → Nat) (hl : pm_mn x 0) : pm_call pm_Tf sc (d + 5) 90 [pm_r 67, .inl 1] (pm_u x w f) = some (none, pm_u (mt1 x w f).1 (mt1 x w f).2 f) := by
  refine (e901 d x w f).trans ?_
  have hl2 : pm_mn (q901 x w f).2.1 0 := by
    obtain ⟨n, hn, hx⟩ := hl
    exact ⟨n, hn, by rw [(l901 x w f 74 (by omega)).1]; exact hx⟩
  unfold mt1
  revert hl2
  generalize q901 x w f = t
  intro hl2
  have h1 : pm_ev (pm_call pm_Tf sc (d + 4)) sc 0 pm_c90 84 [(3, .inl 8), (2, .inl t.1), (0, pm_r 67), (1, .inl 1)] [] (pm_u t.2.1 t.2.2 f) = pm_ev (pm_call pm_Tf sc (d + 4)) sc 0 pm_c90 86 [(3, .inl 8), (2, .inl t.1), (0, pm_r 67), (1, .inl 1)] [.inl 1, pm_r 67] (pm_u t.2.1 t.2.2 f) := (pm_ev_iter [86] 5 _ _ _ _).trans rfl
  have h2 : pm_ev (pm_call pm_Tf sc (d + 4)) sc 0 pm_c90 86 [(3, .inl 8), (2, .inl t.1), (0, pm_r 67), (1, .inl 1)] [.inl 1, pm_r 67] (pm_u t.2.1 t.2.2 f) = pm_call1 (fun v u => pm_ev (pm_call pm_Tf sc (d + 4)) sc 0 pm_c90 89 [(3, .inl 8), (2, .inl t.1), (0, pm_r 67), (1, .inl 1)] (v.toList ++ []) u) none (pm_call pm_Tf sc (d + 4) 89 [pm_r 67, .inl 1] (pm_u t.2.1 t.2.2 f)) := (pm_ev_step _ _ _ _).trans rfl
  rw [h1, h2, pm_call1_of (zms1 d t.2.1 t.2.2 f hl2)]
  exact e90t1 d t.1 _ _ f
def mi1 (f : Nat → Nat → Nat) : Nat → (Nat → Nat → Int32) × (Nat → Nat → Bool) → (Nat → Nat → Int32) × (Nat → Nat → Bool)
  | 0, z => z
  | n + 1, z => mi1 f n (mt1 z.1 z.2 f)
theorem zmi1 {sc : pm_Sc} (d m : Nat) (f : Nat → Nat → Nat) (hm : m ≤ 500) (hp : ∀ x w, pm_mn x 0 → pm_mn (mt1 x w f).1 0) : ∀ (r i : Nat) (z : (Nat → Nat → Int32) × (Nat → Nat → Bool)), i + r = m → pm_mn z.1 0 → pm_ev (pm_call pm_Tf sc (d + 5)) sc 1 pm_c92 23 [(3, .inl (Int32.ofNat i)), (0, pm_r 67), (1, .inl 1), (2, .inl (Int32.ofNat m))] [] (pm_u z.1 z.2 f) = some (some (.inl ((mi1 f r z).1 68 1)), pm_u (mi1 f r z).1 (mi1 f r z).2 f)
  | 0, i, z, hi, hl => by
    have e : i = m := by omega
    subst e
    have h1 : pm_ev (pm_call pm_Tf sc (d + 5)) sc 1 pm_c92 23 [(3, .inl (Int32.ofNat i)), (0, pm_r 67), (1, .inl 1), (2, .inl (Int32.ofNat i))] [] (pm_u z.1 z.2 f) = if Int32.ofNat i ≤ Int32.ofNat i then some (some (.inl (z.1 68 1)), pm_u z.1 z.2 f) else pm_ev (pm_call pm_Tf sc (d + 5)) sc 1 pm_c92 30 [(3, .inl (Int32.ofNat i)), (0, pm_r 67), (1, .inl 1), (2, .inl (Int32.ofNat i))] [.inl 1, pm_r 67] (pm_u z.1 z.2 f) := (pm_ev_iter [30] 20 _ _ _ _).trans rfl
    rw [h1, if_pos (show Int32.ofNat i ≤ Int32.ofNat i from nI_le (Nat.le_refl i) (by omega))]
    rfl
  | r + 1, i, z, hi, hl => by
    have h1 : pm_ev (pm_call pm_Tf sc (d + 5)) sc 1 pm_c92 23 [(3, .inl (Int32.ofNat i)), (0, pm_r 67), (1, .inl 1), (2, .inl (Int32.ofNat m))] [] (pm_u z.1 z.2 f) = if Int32.ofNat m ≤ Int32.ofNat i then some (some (.inl (z.1 68 1)), pm_u z.1 z.2 f) else pm_ev (pm_call pm_Tf sc (d + 5)) sc 1 pm_c92 30 [(3, .inl (Int32.ofNat i)), (0, pm_r 67), (1, .inl 1), (2, .inl (Int32.ofNat m))] [.inl 1, pm_r 67] (pm_u z.1 z.2 f) := (pm_ev_iter [30] 20 _ _ _ _).trans rfl
    have h2 : pm_ev (pm_call pm_Tf sc (d + 5)) sc 1 pm_c92 30 [(3, .inl (Int32.ofNat i)), (0, pm_r 67), (1, .inl 1), (2, .inl (Int32.ofNat m))] [.inl 1, pm_r 67] (pm_u z.1 z.2 f) = pm_call1 (fun v u => pm_ev (pm_call pm_Tf sc (d + 5)) sc 1 pm_c92 33 [(3, .inl (Int32.ofNat i)), (0, pm_r 67), (1, .inl 1), (2, .inl (Int32.ofNat m))] (v.toList ++ []) (u)) none (pm_call pm_Tf sc (d + 5) 90 [pm_r 67, .inl 1] (pm_u z.1 z.2 f)) := (pm_ev_step _ _ _ _).trans rfl
    have h3 : ∀ (y : Nat → Nat → Int32) (z0 : Nat → Nat → Bool), pm_ev (pm_call pm_Tf sc (d + 5)) sc 1 pm_c92 33 [(3, .inl (Int32.ofNat i)), (0, pm_r 67), (1, .inl 1), (2, .inl (Int32.ofNat m))] ((none : Option pm_V).toList ++ []) (pm_u y z0 f) = pm_ev (pm_call pm_Tf sc (d + 5)) sc 1 pm_c92 23 [(3, .inl (Int32.ofNat i + 1)), (0, pm_r 67), (1, .inl 1), (2, .inl (Int32.ofNat m))] [] (pm_u y z0 f) := fun y z0 => (pm_ev_iter [23] 10 _ _ _ _).trans rfl
    rw [h1, if_neg (show ¬ Int32.ofNat m ≤ Int32.ofNat i from nI_ge (by omega) (by omega)), h2, pm_call1_of (zmt1 d z.1 z.2 f hl), h3]
    rw [show Int32.ofNat i + 1 = Int32.ofNat (i + 1) from nI_1 i]
    exact zmi1 d m f hm hp r (i + 1) (mt1 z.1 z.2 f) (by omega) (hp z.1 z.2 hl)
theorem zmst1 {sc : pm_Sc} (d m : Nat) (x : Nat → Nat → Int32) (w : Nat → Nat → Bool) (f : Nat → Nat → Nat) (h1m : 1 ≤ m) (hm : m ≤ 500) (hp : ∀ x w, pm_mn x 0 → pm_mn (mt1 x w f).1 0) (hl : pm_mn x 0) : pm_call pm_Tf sc (d + 6) 92 [pm_r 67, .inl 1, .inl (Int32.ofNat m)] (pm_u x w f) = some (some (.inl ((mi1 f m (x, w)).1 68 1)), pm_u (mi1 f m (x, w)).1 (mi1 f m (x, w)).2 f) := by
  show pm_ev (pm_call pm_Tf sc (d + 5)) sc 1 pm_c92 0 [(0, pm_r 67), (1, .inl 1), (2, .inl (Int32.ofNat m))] [] (pm_u x w f) = _
  have g1 : pm_ev (pm_call pm_Tf sc (d + 5)) sc 1 pm_c92 0 [(0, pm_r 67), (1, .inl 1), (2, .inl (Int32.ofNat m))] [] (pm_u x w f) = pm_ev (pm_call pm_Tf sc (d + 5)) sc 1 pm_c92 1 [(0, pm_r 67), (1, .inl 1), (2, .inl (Int32.ofNat m))] [.inl 1] (pm_u x w f) := (pm_ev_iter [1] 3 _ _ _ _).trans rfl
  have g2 : pm_ev (pm_call pm_Tf sc (d + 5)) sc 1 pm_c92 1 [(0, pm_r 67), (1, .inl 1), (2, .inl (Int32.ofNat m))] [.inl 1] (pm_u x w f) = pm_call1 (fun v u => pm_ev (pm_call pm_Tf sc (d + 5)) sc 1 pm_c92 4 [(0, pm_r 67), (1, .inl 1), (2, .inl (Int32.ofNat m))] (v.toList ++ []) u) none (pm_call pm_Tf sc (d + 5) 91 [.inl 1] (pm_u x w f)) := (pm_ev_step _ _ _ _).trans rfl
  refine g1.trans (g2.trans ((pm_call1_of (z91 (d + 5) 1 x w f)).trans ?_))
  have g3 : pm_ev (pm_call pm_Tf sc (d + 5)) sc 1 pm_c92 4 [(0, pm_r 67), (1, .inl 1), (2, .inl (Int32.ofNat m))] ((some (pm_b (q91 1 x w f))).toList ++ []) (pm_u x w f) = if Int32.ofNat m < 1 then some (some (.inl (-1)), pm_u x w f) else if Int32.ofNat m ≤ 500 then pm_ev (pm_call pm_Tf sc (d + 5)) sc 1 pm_c92 23 [(3, .inl (Int32.ofNat 0)), (0, pm_r 67), (1, .inl 1), (2, .inl (Int32.ofNat m))] [] (pm_u x w f) else some (some (.inl (-1)), pm_u x w f) := (pm_ev_iter [23] 20 _ _ _ _).trans rfl
  refine g3.trans ?_
  rw [if_neg (show ¬ Int32.ofNat m < 1 from nI_nlt (b := 1) h1m (by omega)), if_pos (show Int32.ofNat m ≤ 500 from nI_le (b := 500) hm (by decide))]
  exact zmi1 d m f hm hp m 0 (x, w) (by omega) hl

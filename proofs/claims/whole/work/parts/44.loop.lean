/-! The law's loop, whole. -/
abbrev pm_Iv : Type := Nat → (Nat → Nat → Int32) → (Nat → Nat → Bool) → (Nat → Nat → Nat) → Prop
section PML
variable {c : Nat → List pm_V → pm_S → Option pm_Rs} {sc : pm_Sc} {I : pm_Iv}
/-- a pair of calls with the same numbers: the same answer, and the invariant again -/
def pm_Go (c : Nat → List pm_V → pm_S → Option pm_Rs) (I : pm_Iv) (mc mr : Nat) (av : List pm_V) : Prop := ∀ n x w f, n < 512 → I n x w f → ∃ (v : Int32) (x1 : Nat → Nat → Int32) (w1 : Nat → Nat → Bool) (f1 : Nat → Nat → Nat) (x2 : Nat → Nat → Int32) (w2 : Nat → Nat → Bool) (f2 : Nat → Nat → Nat), c mc (pm_r 0 :: av) (pm_u x w f) = some (some (.inl v), pm_u x1 w1 f1) ∧ c mr (pm_r 67 :: av) (pm_u x1 w1 f1) = some (some (.inl v), pm_u x2 w2 f2) ∧ I (n + 1) x2 w2 f2
def pm_Gb (c : Nat → List pm_V → pm_S → Option pm_Rs) (I : pm_Iv) (mc mr : Nat) (av : List pm_V) : Prop := ∀ n x w f, n < 512 → I n x w f → ∃ (v : Bool) (x1 : Nat → Nat → Int32) (w1 : Nat → Nat → Bool) (f1 : Nat → Nat → Nat) (x2 : Nat → Nat → Int32) (w2 : Nat → Nat → Bool) (f2 : Nat → Nat → Nat), c mc (pm_r 0 :: av) (pm_u x w f) = some (some (pm_b v), pm_u x1 w1 f1) ∧ c mr (pm_r 67 :: av) (pm_u x1 w1 f1) = some (some (pm_b v), pm_u x2 w2 f2) ∧ I (n + 1) x2 w2 f2
def pm_Gn (c : Nat → List pm_V → pm_S → Option pm_Rs) (I : pm_Iv) (mc mr : Nat) (av : List pm_V) : Prop := ∀ n x w f, n < 512 → I n x w f → ∃ (x1 : Nat → Nat → Int32) (w1 : Nat → Nat → Bool) (f1 : Nat → Nat → Nat) (x2 : Nat → Nat → Int32) (w2 : Nat → Nat → Bool) (f2 : Nat → Nat → Nat), c mc (pm_r 0 :: av) (pm_u x w f) = some (none, pm_u x1 w1 f1) ∧ c mr (pm_r 67 :: av) (pm_u x1 w1 f1) = some (none, pm_u x2 w2 f2) ∧ I (n + 1) x2 w2 f2
def pm_Ops (c : Nat → List pm_V → pm_S → Option pm_Rs) (I : pm_Iv) : Prop := (∀ n x w f, I n x w f → I (n + 1) x w f) ∧ pm_Gn c I 47 74 [] ∧ (∀ (a0 : Int32) (a1 : Int32), pm_Go c I 48 92 [.inl a0, .inl a1]) ∧ (∀ (a0 : Int32) (a1 : Int32), pm_Go c I 49 93 [.inl a0, .inl a1]) ∧ (∀ (a0 : Int32), pm_Go c I 50 94 [.inl a0]) ∧ (∀ (a0 : Bool), pm_Gb c I 51 95 [pm_bi a0]) ∧ (∀ (a0 : Int32) (a1 : Int32) (a2 : Bool), pm_Go c I 52 97 [.inl a0, .inl a1, pm_bi a2]) ∧ (∀ (a0 : Int32) (a1 : Int32) (a2 : Bool), pm_Go c I 53 98 [.inl a0, .inl a1, pm_bi a2]) ∧ (∀ (a0 : Int32) (a1 : Int32) (a2 : Int32), pm_Go c I 54 99 [.inl a0, .inl a1, .inl a2]) ∧ (∀ (a0 : Int32) (a1 : Int32) (a2 : Int32) (a3 : Int32), pm_Go c I 55 100 [.inl a0, .inl a1, .inl a2, .inl a3]) ∧ (∀ (a0 : Int32) (a1 : Int32), pm_Go c I 56 103 [.inl a0, .inl a1]) ∧ (∀ (a0 : Int32) (a1 : Int32), pm_Go c I 57 104 [.inl a0, .inl a1]) ∧ (∀ (a0 : Int32) (a1 : Int32), pm_Go c I 58 105 [.inl a0, .inl a1]) ∧ (∀ (a0 : Int32) (a1 : Int32) (a2 : Int32), pm_Go c I 59 106 [.inl a0, .inl a1, .inl a2]) ∧ (∀ (a0 : Int32) (a1 : Int32) (a2 : Int32), pm_Go c I 60 107 [.inl a0, .inl a1, .inl a2]) ∧ (∀ (a0 : Int32) (a1 : Int32), pm_Go c I 61 108 [.inl a0, .inl a1]) ∧ (pm_Gb c I 62 109 []) ∧ (pm_Go c I 63 110 [])
theorem pm_end {L n : Nat} (hL : L ≤ 2560) (hn : n ≤ 2560) : (Int32.ofNat L - Int32.ofInt 5 < Int32.ofNat n) ↔ L < n + 5 := by
  have h5 : Int32.ofInt 5 = Int32.ofNat 5 := rfl
  rw [h5]
  by_cases h : 5 ≤ L
  · obtain ⟨l, rfl⟩ : ∃ l, L = l + 5 := ⟨L - 5, by omega⟩
    have e : Int32.ofNat (l + 5) - Int32.ofNat 5 = Int32.ofNat l := by
      rw [show Int32.ofNat (l + 5) = Int32.ofNat l + Int32.ofNat 5 from (nI_add l 5).symm]
      exact Int32.add_sub_cancel _ _
    rw [e]
    refine (show Int32.ofNat l < Int32.ofNat n ↔ l < n from nI_ltI (by omega) (by omega)).trans ?_
    omega
  · have hl : Int32.ofNat L - Int32.ofNat 5 < 0 := by
      have h1 : L = 0 ∨ L = 1 ∨ L = 2 ∨ L = 3 ∨ L = 4 := by omega
      rcases h1 with rfl | rfl | rfl | rfl | rfl <;> decide
    have h2 : Int32.ofNat L - Int32.ofNat 5 < Int32.ofNat n := by
      have h3 : (0 : Int32) ≤ Int32.ofNat n := nI_pos' (by omega)
      exact Int32.lt_of_lt_of_le hl h3
    exact ⟨fun _ => by omega, fun _ => h2⟩
theorem pm_hd {n : Nat} {u : pm_S} : pm_ev c sc 2 pm_cL 18 (pm_lL n) [] u = if Int32.ofNat sc.1 - Int32.ofInt 5 < Int32.ofNat n then pm_ev c sc 2 pm_cL 719 (pm_lL n) [] u else pm_ev c sc 2 pm_cL 26 (pm_lL n) [] u := (pm_ev_iter [719, 26] 8 _ _ _ _).trans rfl
theorem pm_tl0 {n : Nat} {u : pm_S} : pm_ev c sc 2 pm_cL 713 (pm_lL n) [] u = pm_ev c sc 2 pm_cL 18 (pm_lL (n + 5)) [] u := by
  have e : pm_ev c sc 2 pm_cL 713 (pm_lL n) [] u = pm_ev c sc 2 pm_cL 18 [(3, .inl (Int32.ofNat n + Int32.ofInt 5)), (2, pm_r 67), (1, pm_r 0), (0, pm_sv0)] [] u := (pm_ev_iter [18] 3 _ _ _ _).trans rfl
  rw [e, show Int32.ofNat n + Int32.ofInt 5 = Int32.ofNat (n + 5) from nI_add n 5]
theorem pm_Lsel {n : Nat} {u : pm_S} (hn : n + 5 ≤ sc.1) (hL : sc.1 ≤ 2560) : pm_ev c sc 2 pm_cL 26 (pm_lL n) [] u = pm_sw (sc.2 n &&& Int32.ofInt 31) (fun pc => pm_ev c sc 2 pm_cL pc (pm_lL n) [] u) 713 [116, 127, 160, 193, 216, 255, 314, 373, 416, 469, 502, 535, 568, 611, 654, 687, 700] 0 := by
  have e0 : pm_ev c sc 2 pm_cL 26 (pm_lL n) [] u = pm_ev c sc 2 pm_cL 28 (pm_lL n) [.inl (Int32.ofNat n), pm_sv0] u := (pm_ev_iter [28] 3 _ _ _ _).trans rfl
  have e1 : pm_ev c sc 2 pm_cL 28 (pm_lL n) [.inl (Int32.ofNat n), pm_sv0] u = pm_ev c sc 2 pm_cL 29 (pm_lL n) [.inl (sc.2 n)] u := pm_ia (p := 28) (m := n) rfl rfl (by omega) hL
  have e2 : ∀ a : Int32, pm_ev c sc 2 pm_cL 29 (pm_lL n) [.inl a] u = pm_ev c sc 2 pm_cL 32 (pm_lL n) [.inl (a &&& Int32.ofInt 31)] u := fun a => (pm_ev_iter [32] 3 _ _ _ _).trans rfl
  rw [e0, e1, e2]
  exact (pm_ev_step _ _ _ _).trans rfl
/-- one pair of calls, whichever it is -/
theorem pm_one (hO : pm_Ops c I) {k n : Nat} {x : Nat → Nat → Int32} {w : Nat → Nat → Bool} {f : Nat → Nat → Nat} (hn : n + 5 ≤ sc.1) (hL : sc.1 ≤ 2560) (hk : k < 512) (hI : I k x w f) : ∃ x2 w2 f2, I (k + 1) x2 w2 f2 ∧ pm_ev c sc 2 pm_cL 26 (pm_lL n) [] (pm_u x w f) = pm_ev c sc 2 pm_cL 713 (pm_lL n) [] (pm_u x2 w2 f2) := by
  obtain ⟨mo, o47, o48, o49, o50, o51, o52, o53, o54, o55, o56, o57, o58, o59, o60, o61, o62, o63⟩ := hO
  rw [pm_Lsel hn hL]
  rcases pm_sw_or (x := sc.2 n &&& Int32.ofInt 31) (kg := fun pc => pm_ev c sc 2 pm_cL pc (pm_lL n) [] (pm_u x w f)) (d := 713) [116, 127, 160, 193, 216, 255, 314, 373, 416, 469, 502, 535, 568, 611, 654, 687, 700] 0 with e | ⟨t, ht, e⟩
  · rw [e]
    exact ⟨x, w, f, mo _ _ _ _ hI, rfl⟩
  · rw [e]
    simp only [List.mem_cons, List.not_mem_nil, or_false] at ht
    rcases ht with rfl | rfl | rfl | rfl | rfl | rfl | rfl | rfl | rfl | rfl | rfl | rfl | rfl | rfl | rfl | rfl | rfl
    · obtain ⟨x1, w1, f1, x2, w2, f2, h1, h2, h3⟩ := o47 k x w f hk hI
      exact ⟨x2, w2, f2, h3, pm_P47 h1 h2⟩
    · obtain ⟨v, x1, w1, f1, x2, w2, f2, h1, h2, h3⟩ := o48 (sc.2 (n + 1)) (sc.2 (n + 2)) k x w f hk hI
      exact ⟨x2, w2, f2, h3, pm_P48 hn hL h1 h2⟩
    · obtain ⟨v, x1, w1, f1, x2, w2, f2, h1, h2, h3⟩ := o49 (sc.2 (n + 1)) (sc.2 (n + 2)) k x w f hk hI
      exact ⟨x2, w2, f2, h3, pm_P49 hn hL h1 h2⟩
    · obtain ⟨v, x1, w1, f1, x2, w2, f2, h1, h2, h3⟩ := o50 (sc.2 (n + 1)) k x w f hk hI
      exact ⟨x2, w2, f2, h3, pm_P50 hn hL h1 h2⟩
    · obtain ⟨v, x1, w1, f1, x2, w2, f2, h1, h2, h3⟩ := o51 (decide (sc.2 (n + 1) ≠ 0)) k x w f hk hI
      exact ⟨x2, w2, f2, h3, pm_P51 hn hL h1 h2⟩
    · obtain ⟨v, x1, w1, f1, x2, w2, f2, h1, h2, h3⟩ := o52 (sc.2 (n + 1)) (sc.2 (n + 2)) (decide (sc.2 (n + 3) ≠ 0)) k x w f hk hI
      exact ⟨x2, w2, f2, h3, pm_P52 hn hL h1 h2⟩
    · obtain ⟨v, x1, w1, f1, x2, w2, f2, h1, h2, h3⟩ := o53 (sc.2 (n + 1)) (sc.2 (n + 2)) (decide (sc.2 (n + 3) ≠ 0)) k x w f hk hI
      exact ⟨x2, w2, f2, h3, pm_P53 hn hL h1 h2⟩
    · obtain ⟨v, x1, w1, f1, x2, w2, f2, h1, h2, h3⟩ := o54 (sc.2 (n + 1)) (sc.2 (n + 2)) (sc.2 (n + 3)) k x w f hk hI
      exact ⟨x2, w2, f2, h3, pm_P54 hn hL h1 h2⟩
    · obtain ⟨v, x1, w1, f1, x2, w2, f2, h1, h2, h3⟩ := o55 (sc.2 (n + 1)) (sc.2 (n + 2)) (sc.2 (n + 3)) (sc.2 (n + 4)) k x w f hk hI
      exact ⟨x2, w2, f2, h3, pm_P55 hn hL h1 h2⟩
    · obtain ⟨v, x1, w1, f1, x2, w2, f2, h1, h2, h3⟩ := o56 (sc.2 (n + 1)) (sc.2 (n + 2)) k x w f hk hI
      exact ⟨x2, w2, f2, h3, pm_P56 hn hL h1 h2⟩
    · obtain ⟨v, x1, w1, f1, x2, w2, f2, h1, h2, h3⟩ := o57 (sc.2 (n + 1)) (sc.2 (n + 2)) k x w f hk hI
      exact ⟨x2, w2, f2, h3, pm_P57 hn hL h1 h2⟩
    · obtain ⟨v, x1, w1, f1, x2, w2, f2, h1, h2, h3⟩ := o58 (sc.2 (n + 1)) (sc.2 (n + 2)) k x w f hk hI
      exact ⟨x2, w2, f2, h3, pm_P58 hn hL h1 h2⟩
    · obtain ⟨v, x1, w1, f1, x2, w2, f2, h1, h2, h3⟩ := o59 (sc.2 (n + 1)) (sc.2 (n + 2)) (sc.2 (n + 3)) k x w f hk hI
      exact ⟨x2, w2, f2, h3, pm_P59 hn hL h1 h2⟩
    · obtain ⟨v, x1, w1, f1, x2, w2, f2, h1, h2, h3⟩ := o60 (sc.2 (n + 1)) (sc.2 (n + 2)) (sc.2 (n + 3)) k x w f hk hI
      exact ⟨x2, w2, f2, h3, pm_P60 hn hL h1 h2⟩
    · obtain ⟨v, x1, w1, f1, x2, w2, f2, h1, h2, h3⟩ := o61 (sc.2 (n + 1)) (sc.2 (n + 2)) k x w f hk hI
      exact ⟨x2, w2, f2, h3, pm_P61 hn hL h1 h2⟩
    · obtain ⟨v, x1, w1, f1, x2, w2, f2, h1, h2, h3⟩ := o62  k x w f hk hI
      exact ⟨x2, w2, f2, h3, pm_P62 hn hL h1 h2⟩
    · obtain ⟨v, x1, w1, f1, x2, w2, f2, h1, h2, h3⟩ := o63  k x w f hk hI
      exact ⟨x2, w2, f2, h3, pm_P63 hn hL h1 h2⟩
theorem pm_law (hL : sc.1 ≤ 2560) (hO : pm_Ops c I) : ∀ (r k : Nat) (x : Nat → Nat → Int32) (w : Nat → Nat → Bool) (f : Nat → Nat → Nat), k + r = 512 → I k x w f → ∃ x' w' f', pm_ev c sc 2 pm_cL 18 (pm_lL (5 * k)) [] (pm_u x w f) = some (some (pm_b true), pm_u x' w' f')
  | 0, k, x, w, f, hk, hI => by
    refine ⟨x, w, f, ?_⟩
    rw [pm_hd, if_pos ((pm_end hL (by omega)).mpr (by omega))]
    exact (pm_ev_iter [] 3 _ _ _ _).trans rfl
  | r + 1, k, x, w, f, hk, hI => by
    by_cases h : sc.1 < 5 * k + 5
    · refine ⟨x, w, f, ?_⟩
      rw [pm_hd, if_pos ((pm_end hL (by omega)).mpr h)]
      exact (pm_ev_iter [] 3 _ _ _ _).trans rfl
    · obtain ⟨x2, w2, f2, h2, e⟩ := pm_one (c := c) (sc := sc) hO (k := k) (n := 5 * k) (by omega) hL (by omega) hI
      obtain ⟨x', w', f', e'⟩ := pm_law hL hO r (k + 1) x2 w2 f2 (by omega) h2
      refine ⟨x', w', f', ?_⟩
      rw [pm_hd, if_neg (fun q => h ((pm_end hL (by omega)).mp q)), e, pm_tl0]
      exact e'
end PML

/-! The frame that a side sends: class against reference. -/
theorem pm_dv {a : Nat} (h : a < 2 ^ 31) : Int32.ofNat a / 5 = Int32.ofNat (a / 5) := by
  apply Int32.toInt_inj.mp
  rw [Int32.toInt_div, show (Int32.ofNat a).toInt = (a : Int) from nI_toInt h, show (Int32.ofNat (a / 5)).toInt = ((a / 5 : Nat) : Int) from nI_toInt (by omega), show (5 : Int32).toInt = ((5 : Nat) : Int) by decide, ← Int.ofNat_tdiv]
  rw [Int.bmod_eq_of_le (by omega) (by omega)]
theorem pm_ml (a : Nat) : Int32.ofNat a * 5 = Int32.ofNat (a * 5) := by
  have e : ∀ n : Nat, Int32.ofNat (n * 5) = Int32.ofNat n * 5 := by
    intro n
    induction n with
    | zero => decide
    | succ n ih =>
      rw [Nat.succ_mul, show Int32.ofNat (n * 5 + 5) = Int32.ofNat (n * 5) + Int32.ofNat 5 from (nI_add _ _).symm, ih, show Int32.ofNat (n + 1) = Int32.ofNat n + 1 from nI_succ n, Int32.add_mul]
      rfl
  exact (e a).symm
theorem pm_d5p {a : Nat} (h1 : 1 ≤ a) (h : a ≤ 256000) (hd : Int32.ofNat a - Int32.ofNat a / 5 * 5 = 0) : 0 < Int32.ofNat a / 5 := by
  rw [pm_dv (by omega), pm_ml, pm_sub (by omega)] at hd
  have e := (nI_eq (by omega) (by decide)).mp (show nI (a - a / 5 * 5) = nI 0 from hd)
  rw [pm_dv (by omega)]
  exact nI_lt (a := 0) (by omega) (by omega)
theorem pm_fl_d {k : Nat} (h : pm_fl k = true) : (k = 0 ∨ 28 < k) ∧ k ≠ 74 ∧ k ≠ 75 := by
  unfold pm_fl at h
  simp only [Bool.and_eq_true, Bool.or_eq_true, Bool.not_eq_true'] at h
  obtain ⟨⟨h1, h2⟩, h3⟩ := h
  refine ⟨?_, ?_, ?_⟩
  · rcases h1 with g | g
    · exact Or.inl (Nat.eq_of_beq_eq_true g)
    · exact Or.inr (Nat.le_of_ble_eq_true g)
  · rintro rfl
    cases h2
  · rintro rfl
    cases h3
theorem pm_bs_fl : ∀ p ∈ pm_bs, pm_fl p.1 = true := by decide +kernel
/-- what of the relation doesn't see the lines -/
theorem pm_pc_k {z z' : Nat → Nat → Int32} {u u' : Nat → Nat → Bool} {f : Nat → Nat → Nat} {N : Nat} (h : pm_KK N z u f) (e : ∀ k j, pm_fl k = true → z' k j = z k j) (eu : ∀ k j, pm_fl k = true → u' k j = u k j) (hL : pm_Ls z' u' f) : pm_KK N z' u' f := by
  obtain ⟨h1, h2, h3, h4, h5, h6⟩ := h
  refine ⟨pm_R1_t h1 (fun q hq => ⟨e _ _ (pm_px_fl q hq).1, e _ _ (pm_px_fl q hq).2⟩), fun q hq => ?_, pm_Bs_t (Nat.le_refl N) h3 (fun p hp => e _ _ (pm_bs_fl p hp)), pm_N_c h4 (fun r => e 31 r rfl) (fun r => eu 31 r rfl) (eu 72 0 rfl) (fun r _ => e 73 _ rfl), pm_N_c h5 (fun r => e 50 r rfl) (fun r => eu 50 r rfl) (eu 72 1 rfl) (fun r _ => e 73 _ rfl), hL⟩
  rw [eu _ _ (pm_pw_fl q hq).1, eu _ _ (pm_pw_fl q hq).2]
  exact h2 q hq
theorem pm_Li_add {p s t0 c : Nat} {z z' : Nat → Nat → Int32} {u u' : Nat → Nat → Bool} {f : Nat → Nat → Nat} (h : pm_Li p s t0 z u f) (hc : z p 1 = Int32.ofNat c) (c12 : c < 12) (z1 : z' p 1 = Int32.ofNat (c + 1)) (z2 : z' 74 s = Int32.ofNat (c + 1)) (old : ∀ j, j < c → ∀ k, z' (f s j) k = z (f s j) k ∧ u' (f s j) k = u (f s j) k) (rows : ∀ j r, j < c → r < 6 → z' 75 (t0 + 6 * j + r) = z 75 (t0 + 6 * j + r)) (new : pm_Fr z' u' (f s c) (t0 + 6 * c)) : pm_Li p s t0 z' u' f := by
  obtain ⟨c', h12, e1, e2, hF⟩ := h
  have ec : c' = c := (nI_eq (by omega) (by omega)).mp (show nI c' = nI c from e1.symm.trans hc)
  subst ec
  refine ⟨c' + 1, by omega, z1, z2, fun j hj => ?_⟩
  by_cases g : j = c'
  · subst g
    exact new
  · have hj2 : j < c' := by omega
    obtain ⟨a0, a1, a2, a3, a4, a5, a6⟩ := hF j hj2
    refine ⟨?_, ?_, ?_, ?_, ?_, ?_, ?_⟩
    · rw [(old j hj2 0).1, rows j 0 hj2 (by decide)]; exact a0
    · rw [(old j hj2 1).1, rows j 1 hj2 (by decide)]; exact a1
    · rw [(old j hj2 2).1, rows j 2 hj2 (by decide)]; exact a2
    · rw [(old j hj2 3).1, rows j 3 hj2 (by decide)]; exact a3
    · rw [(old j hj2 4).2, rows j 4 hj2 (by decide)]; exact a4
    · rw [(old j hj2 5).2, rows j 5 hj2 (by decide)]; exact a5
    · rw [(old j hj2 0).1]; exact a6
/-- what a send leaves of the reference's rows -/
def pm_Sn (y Y : Nat → Nat → Int32) (s t c : Nat) (e0 e1 e2 e3 e4 e5 : Int32) : Prop := Y 75 (t + 0) = e0 ∧ Y 75 (t + 1) = e1 ∧ Y 75 (t + 2) = e2 ∧ Y 75 (t + 3) = e3 ∧ Y 75 (t + 4) = e4 ∧ Y 75 (t + 5) = e5 ∧ Y 74 s = Int32.ofNat (c + 1) ∧ (∀ j, ¬ (t ≤ j ∧ j < t + 6) → Y 75 j = y 75 j) ∧ (∀ j, j ≠ s → Y 74 j = y 74 j) ∧ ∀ aa, aa ≠ 74 → aa ≠ 75 → Y aa = y aa
theorem pm_Sn_of {y : Nat → Nat → Int32} {s t c : Nat} {e0 e1 e2 e3 e4 e5 : Int32} : pm_Sn y (pm_up (pm_up (pm_up (pm_up (pm_up (pm_up (pm_up y 75 t e0) 75 (t + 1) e1) 75 (t + 2) e2) 75 (t + 3) e3) 75 (t + 4) e4) 75 (t + 5) e5) 74 s (Int32.ofNat (c + 1))) s t c e0 e1 e2 e3 e4 e5 := by
  refine ⟨?_, ?_, ?_, ?_, ?_, ?_, ?_, fun j hj => ?_, fun j hj => ?_, fun aa h1 h2 => ?_⟩
  · simp [pm_up_eq]
  · simp [pm_up_eq]
  · simp [pm_up_eq]
  · simp [pm_up_eq]
  · simp [pm_up_eq]
  · simp [pm_up_eq]
  · simp [pm_up_eq]
  · rw [pm_up_ne (by decide), pm_up_eq, if_neg (by omega), pm_up_eq, if_neg (by omega), pm_up_eq, if_neg (by omega), pm_up_eq, if_neg (by omega), pm_up_eq, if_neg (by omega), pm_up_eq, if_neg (by omega)]
  · rw [pm_up_eq, if_neg (by omega), pm_up_ne (by decide), pm_up_ne (by decide), pm_up_ne (by decide), pm_up_ne (by decide), pm_up_ne (by decide), pm_up_ne (by decide)]
  · rw [pm_up_ne h1, pm_up_ne h2, pm_up_ne h2, pm_up_ne h2, pm_up_ne h2, pm_up_ne h2, pm_up_ne h2]
theorem pm_q11_c {k : Nat} {x X : Nat → Nat → Int32} {w : Nat → Nat → Bool} {f : Nat → Nat → Nat} (h1 : X k = x k) (h2 : X (k + 1) = x (k + 1)) : q11 k X w f = q11 k x w f := by
  unfold q11 q12 q10
  rw [h1, h2]
theorem pm_q28b_c {x X : Nat → Nat → Int32} {w : Nat → Nat → Bool} {f : Nat → Nat → Nat} (h : ∀ k, 51 ≤ k → X k = x k) : q28b X w f = q28b x w f := by
  unfold q28b
  rw [pm_q11_c (k := 51) (h _ (by omega)) (h _ (by omega)), pm_q11_c (k := 53) (h _ (by omega)) (h _ (by omega)), pm_q11_c (k := 55) (h _ (by omega)) (h _ (by omega)), pm_q11_c (k := 57) (h _ (by omega)) (h _ (by omega)), pm_q11_c (k := 59) (h _ (by omega)) (h _ (by omega)), pm_q11_c (k := 61) (h _ (by omega)) (h _ (by omega)), pm_q11_c (k := 63) (h _ (by omega)) (h _ (by omega)), pm_q11_c (k := 65) (h _ (by omega)) (h _ (by omega))]
  rfl
theorem pm_e29_0 {x y : Nat → Nat → Int32} {w v : Nat → Nat → Bool} {f : Nat → Nat → Nat} (h : pm_B1 (pm_J w v)) : q29a x w f = q840 y v f := by
  have b0 : w 32 6 = v 77 0 := pm_b6 (k := 32) (r := 0) h (by decide +kernel)
  have b1 : w 34 6 = v 77 1 := pm_b6 (k := 34) (r := 1) h (by decide +kernel)
  have b2 : w 36 6 = v 77 2 := pm_b6 (k := 36) (r := 2) h (by decide +kernel)
  have b3 : w 38 6 = v 77 3 := pm_b6 (k := 38) (r := 3) h (by decide +kernel)
  have b4 : w 40 6 = v 77 4 := pm_b6 (k := 40) (r := 4) h (by decide +kernel)
  have b5 : w 42 6 = v 77 5 := pm_b6 (k := 42) (r := 5) h (by decide +kernel)
  have b6 : w 44 6 = v 77 6 := pm_b6 (k := 44) (r := 6) h (by decide +kernel)
  have b7 : w 46 6 = v 77 7 := pm_b6 (k := 46) (r := 7) h (by decide +kernel)
  unfold q29a q72 q840 q840_32 q840_32_1 q840_32_2 q840_32_3 q840_32_4 q840_32_5 q840_32_6 q840_32_7
  rw [b0, b1, b2, b3, b4, b5, b6, b7]
  generalize v 77 0 = c0
  generalize v 77 1 = c1
  generalize v 77 2 = c2
  generalize v 77 3 = c3
  generalize v 77 4 = c4
  generalize v 77 5 = c5
  generalize v 77 6 = c6
  generalize v 77 7 = c7
  clear b0 b1 b2 b3 b4 b5 b6 b7
  revert c0 c1 c2 c3 c4 c5 c6 c7
  decide +kernel
theorem pm_e29_1 {x y : Nat → Nat → Int32} {w v : Nat → Nat → Bool} {f : Nat → Nat → Nat} (h : pm_B1 (pm_J w v)) : q29b x w f = q841 y v f := by
  have b0 : w 51 6 = v 77 8 := pm_b6 (k := 51) (r := 8) h (by decide +kernel)
  have b1 : w 53 6 = v 77 9 := pm_b6 (k := 53) (r := 9) h (by decide +kernel)
  have b2 : w 55 6 = v 77 10 := pm_b6 (k := 55) (r := 10) h (by decide +kernel)
  have b3 : w 57 6 = v 77 11 := pm_b6 (k := 57) (r := 11) h (by decide +kernel)
  have b4 : w 59 6 = v 77 12 := pm_b6 (k := 59) (r := 12) h (by decide +kernel)
  have b5 : w 61 6 = v 77 13 := pm_b6 (k := 61) (r := 13) h (by decide +kernel)
  have b6 : w 63 6 = v 77 14 := pm_b6 (k := 63) (r := 14) h (by decide +kernel)
  have b7 : w 65 6 = v 77 15 := pm_b6 (k := 65) (r := 15) h (by decide +kernel)
  unfold q29b q72 q841 q841_32 q841_32_1 q841_32_2 q841_32_3 q841_32_4 q841_32_5 q841_32_6 q841_32_7
  rw [b0, b1, b2, b3, b4, b5, b6, b7]
  generalize v 77 8 = c0
  generalize v 77 9 = c1
  generalize v 77 10 = c2
  generalize v 77 11 = c3
  generalize v 77 12 = c4
  generalize v 77 13 = c5
  generalize v 77 14 = c6
  generalize v 77 15 = c7
  clear b0 b1 b2 b3 b4 b5 b6 b7
  revert c0 c1 c2 c3 c4 c5 c6 c7
  decide +kernel
theorem pm_ms_0 {y : Nat → Nat → Int32} {v : Nat → Nat → Bool} {f : Nat → Nat → Nat} {c : Nat} (hc : c < 12) (hy : y 74 1 = Int32.ofNat c) (hd : y 68 0 - y 68 0 / 5 * 5 = 0) : ∃ Y, ms0 y v f = (Y, v) ∧ pm_Sn y Y 1 (72 + 6 * c) c (y 68 0 / 5) (if v 72 0 = true then y 73 0 else 0) (y 69 0) (q840 y v f) (if q78 y v f = true then 1 else 0) (if v 67 21 = true then 1 else 0) := by
  have n12 : ¬ Int32.ofNat c = 12 := fun g => by
    have := (nI_eq (by omega) (by decide)).mp (show nI c = nI 12 from g)
    omega
  have e1 : ∀ (d : Int32) (Y : Nat → Nat → Int32), Y 74 1 = Int32.ofNat c → q890_157 c d Y v f = (pm_up (pm_up Y 75 (72 + 6 * c + 5) d) 74 1 (Int32.ofNat (c + 1)), v) := by
    intro d Y h
    unfold q890_157
    rw [h, show Int32.ofNat c + 1 = Int32.ofNat (c + 1) from nI_1 c]
  have e2 : ∀ (b : Int32) (Y : Nat → Nat → Int32), Y 74 1 = Int32.ofNat c → q890_133 c b Y v f = (pm_up (pm_up (pm_up Y 75 (72 + 6 * c + 4) b) 75 (72 + 6 * c + 5) (if v 67 21 = true then 1 else 0)) 74 1 (Int32.ofNat (c + 1)), v) := by
    intro b Y h
    unfold q890_133
    rw [e1 1 (pm_up Y 75 (72 + 6 * c + 4) b) h, e1 0 (pm_up Y 75 (72 + 6 * c + 4) b) h]
    by_cases g : v 67 21 = true
    · rw [if_pos g, if_pos g]
    · rw [if_neg g, if_neg g]
  have e3 : ∀ (e : Int32) (Y : Nat → Nat → Int32), Y 74 1 = Int32.ofNat c → q890_85 c e Y v f = (pm_up (pm_up (pm_up (pm_up (pm_up (pm_up Y 75 (72 + 6 * c + 1) e) 75 (72 + 6 * c + 2) (Y 69 0)) 75 (72 + 6 * c + 3) (q840 Y v f)) 75 (72 + 6 * c + 4) (if q78 Y v f = true then 1 else 0)) 75 (72 + 6 * c + 5) (if v 67 21 = true then 1 else 0)) 74 1 (Int32.ofNat (c + 1)), v) := by
    intro e Y h
    have z : q840 (pm_up (pm_up Y 75 (72 + 6 * c + 1) e) 75 (72 + 6 * c + 2) (Y 69 0)) v f = q840 Y v f := rfl
    have z2 : ∀ d : Int32, q830 (pm_up (pm_up (pm_up Y 75 (72 + 6 * c + 1) e) 75 (72 + 6 * c + 2) (Y 69 0)) 75 (72 + 6 * c + 3) d) v f = q78 Y v f := fun _ => rfl
    unfold q890_85
    rw [z, z2, e2 1 (pm_up (pm_up (pm_up Y 75 (72 + 6 * c + 1) e) 75 (72 + 6 * c + 2) (Y 69 0)) 75 (72 + 6 * c + 3) (q840 Y v f)) h, e2 0 (pm_up (pm_up (pm_up Y 75 (72 + 6 * c + 1) e) 75 (72 + 6 * c + 2) (Y 69 0)) 75 (72 + 6 * c + 3) (q840 Y v f)) h]
    by_cases g : q78 Y v f = true
    · rw [if_pos g, if_pos g]
    · rw [if_neg g, if_neg g]
  refine ⟨_, ?_, pm_Sn_of⟩
  unfold ms0
  rw [hy, if_neg n12, show (Int32.ofNat c).toNatClampNeg = c from nI_clamp (by omega)]
  unfold q890
  rw [if_pos hd, if_neg n12, pm_up_same hy, e3 (y 73 0) (pm_up y 75 (72 + 6 * c) (y 68 0 / 5)) hy, e3 0 (pm_up y 75 (72 + 6 * c) (y 68 0 / 5)) hy]
  by_cases g : v 72 0 = true
  · rw [if_pos g, if_pos g]
    rfl
  · rw [if_neg g, if_neg g]
    rfl
theorem pm_ms_n0 {y : Nat → Nat → Int32} {v : Nat → Nat → Bool} {f : Nat → Nat → Nat} {c : Nat} (hc : c ≤ 12) (hy : y 74 1 = Int32.ofNat c) (hd : c = 12 ∨ ¬ y 68 0 - y 68 0 / 5 * 5 = 0) : ms0 y v f = (y, v) := by
  unfold ms0
  by_cases g : y 74 1 = 12
  · rw [if_pos g]
    unfold q890f
    rw [pm_up_same g]
    split <;> rfl
  · rw [if_neg g]
    have hc2 : c ≠ 12 := by
      rintro rfl
      exact g hy
    have hd2 : ¬ y 68 0 - y 68 0 / 5 * 5 = 0 := by
      rcases hd with q | q
      · exact absurd q hc2
      · exact q
    rw [hy, show (Int32.ofNat c).toNatClampNeg = c from nI_clamp (by omega)]
    unfold q890
    rw [if_neg hd2, pm_up_same hy]
theorem pm_pc_0 {x y : Nat → Nat → Int32} {w v : Nat → Nat → Bool} {f : Nat → Nat → Nat} {N a : Nat} (h : pm_KK N (pm_J x y) (pm_J w v) f) (ha1 : 1 ≤ a) (ha2 : a ≤ 256000) (ea : x 29 4 = Int32.ofNat a) : pm_KK N (pm_J (if x 29 4 - x 29 4 / 5 * 5 = 0 then csa x w f else (x, w)).1 (ms0 y v f).1) (pm_J (if x 29 4 - x 29 4 / 5 * 5 = 0 then csa x w f else (x, w)).2 (ms0 y v f).2) f := by
  have hK := h
  obtain ⟨h1, h2, h3, h4, h5, hf, l0, l1, hfi⟩ := h
  have es : x 29 4 = y 68 0 := (pm_P0_of hK).2.2.1
  obtain ⟨c, c12, hx, hy, hF⟩ := id l1
  have hx' : x 15 1 = Int32.ofNat c := hx
  have hy' : y 74 1 = Int32.ofNat c := hy
  by_cases g : x 29 4 - x 29 4 / 5 * 5 = 0
  · rw [if_pos g]
    by_cases gc : c < 12
    · obtain ⟨Y, eY, s0, s1, s2, s3, s4, s5, s6, s7, s8, s9⟩ := pm_ms_0 (v := v) (f := f) gc hy' (by rw [← es]; exact g)
      have hq := (hf c gc).2
      have hb := pm_F1_ne hq
      have eC : csa x w f = q23a (f 1 c) (pm_up x 15 1 (Int32.ofNat (c + 1))) w f := by
        unfold csa
        rw [hx', if_pos (show Int32.ofNat c < 12 from nI_lt (b := 12) gc (by decide)), show (Int32.ofNat c).toNatClampNeg = c from nI_clamp (by omega), show Int32.ofNat c + 1 = Int32.ofNat (c + 1) from nI_1 c]
      rw [eY, eC]
      have lx : ∀ aa, aa ≠ f 1 c → (q23a (f 1 c) (pm_up x 15 1 (Int32.ofNat (c + 1))) w f).1 aa = pm_up x 15 1 (Int32.ofNat (c + 1)) aa ∧ (q23a (f 1 c) (pm_up x 15 1 (Int32.ofNat (c + 1))) w f).2 aa = w aa := fun aa g => l23a (f 1 c) (pm_up x 15 1 (Int32.ofNat (c + 1))) w f hq aa g
      have ax : ∀ aa, aa ≠ f 1 c → aa ≠ 15 → (q23a (f 1 c) (pm_up x 15 1 (Int32.ofNat (c + 1))) w f).1 aa = x aa := fun aa g1 g2 => (lx aa g1).1.trans (pm_up_ne g2)
      have n29 : (29 : Nat) ≠ f 1 c := by omega
      have n31 : (31 : Nat) ≠ f 1 c := by omega
      have w4 : (q23a (f 1 c) (pm_up x 15 1 (Int32.ofNat (c + 1))) w f).2 (f 1 c) 4 = q38a x w f := by
        have e : ∀ X : Nat → Nat → Int32, X 29 = x 29 → q36a X w f = q38a x w f := by
          intro X hX
          unfold q36a q38a q71
          rw [hX]
        unfold q23a
        dsimp only
        rw [pm_up_at, if_neg (by decide), pm_up_at, if_pos rfl]
        apply e
        rw [pm_up_ne n29, pm_up_ne n29, pm_up_ne n29, pm_up_ne n29]
        rfl
      have w5 : (q23a (f 1 c) (pm_up x 15 1 (Int32.ofNat (c + 1))) w f).2 (f 1 c) 5 = w 29 13 := by
        unfold q23a q37a
        dsimp only
        rw [pm_up_at, if_pos rfl, pm_up_ne n29]
      have v0 : (q23a (f 1 c) (pm_up x 15 1 (Int32.ofNat (c + 1))) w f).1 (f 1 c) 0 = x 29 4 / 5 := by
        unfold q23a
        dsimp only
        rw [pm_up_at, if_neg (by decide), pm_up_at, if_neg (by decide), pm_up_at, if_neg (by decide), pm_up_at, if_pos rfl]
        rfl
      have v1 : (q23a (f 1 c) (pm_up x 15 1 (Int32.ofNat (c + 1))) w f).1 (f 1 c) 1 = x 31 0 := by
        unfold q23a
        dsimp only
        rw [pm_up_at, if_neg (by decide), pm_up_at, if_neg (by decide), pm_up_at, if_pos rfl]
        rfl
      have v2 : (q23a (f 1 c) (pm_up x 15 1 (Int32.ofNat (c + 1))) w f).1 (f 1 c) 2 = x 29 5 := by
        unfold q23a
        dsimp only
        rw [pm_up_at, if_neg (by decide), pm_up_at, if_pos rfl]
        rfl
      have v3 : (q23a (f 1 c) (pm_up x 15 1 (Int32.ofNat (c + 1))) w f).1 (f 1 c) 3 = q29a x w f := by
        unfold q23a
        dsimp only
        rw [pm_up_at, if_pos rfl]
        rfl
      have fl : ∀ k, pm_fl k = true → (k < 67 → k ≠ f 1 c ∧ k ≠ 15) ∧ k ≠ 74 ∧ k ≠ 75 := fun k g => by
        have := pm_fl_d g
        omega
      have f67 : f 1 c < 67 := by omega
      refine pm_pc_k hK (fun k j g => ?_) (fun k j g => ?_) ⟨hf, ?_, ?_, hfi⟩
      · obtain ⟨t1, t2, t3⟩ := fl k g
        by_cases k67 : k < 67
        · rw [pm_J_l k67, pm_J_l k67, ax k (t1 k67).1 (t1 k67).2]
        · rw [pm_J_g (by omega), pm_J_g (by omega)]
          exact congrFun (s9 k t2 t3) j
      · obtain ⟨t1, t2, t3⟩ := fl k g
        by_cases k67 : k < 67
        · rw [pm_J_l k67, pm_J_l k67, (lx k (t1 k67).1).2]
        · rw [pm_J_g (by omega), pm_J_g (by omega)]
      · refine pm_Li_c l0 ?_ ?_ (fun j hj k => ?_) (fun i r hi hr => ?_) (fun _ _ => rfl)
        · show (q23a (f 1 c) (pm_up x 15 1 (Int32.ofNat (c + 1))) w f).1 1 1 = x 1 1
          rw [ax 1 (by omega) (by omega)]
        · show Y 74 0 = y 74 0
          exact s8 0 (by decide)
        · have b0 := pm_F0_ne (hf j hj).1
          rw [pm_J_l (by omega), pm_J_l (by omega), pm_J_l (by omega), pm_J_l (by omega), ax _ (by omega) (by omega), (lx _ (by omega)).2]
          exact ⟨rfl, rfl⟩
        · show Y 75 (0 + 6 * i + r) = y 75 (0 + 6 * i + r)
          exact s7 _ (by omega)
      · refine pm_Li_add l1 hx gc ?_ s6 (fun j hj k => ?_) (fun j r hj hr => ?_) ?_
        · show (q23a (f 1 c) (pm_up x 15 1 (Int32.ofNat (c + 1))) w f).1 15 1 = Int32.ofNat (c + 1)
          rw [(lx 15 (by omega)).1]
          rfl
        · have bj := pm_F1_ne (hf j (by omega)).2
          have nj : f 1 j ≠ f 1 c := fun e => by
            have := hfi 1 j c (by omega) gc (by omega) e
            omega
          rw [pm_J_l (by omega), pm_J_l (by omega), pm_J_l (by omega), pm_J_l (by omega), ax _ nj (by omega), (lx _ nj).2]
          exact ⟨rfl, rfl⟩
        · show Y 75 (72 + 6 * j + r) = y 75 (72 + 6 * j + r)
          exact s7 _ (by omega)
        · have p30 : x 31 0 = (if v 72 0 = true then y 73 0 else 0) := pm_e30 (f := f) h4
          have p38 : q38a x w f = q78 y v f := pm_e38 (w := pm_J w v) (f := f) h1 (pm_P0_of hK).2.2.2.2.1
          have p29 : q29a x w f = q840 y v f := pm_e29_0 h2
          have p13 : w 29 13 = v 67 21 := pm_eb13 h2
          have p5 : x 29 5 = y 69 0 := (pm_Sd_of h3 h4 h5 ⟨hf, l0, l1, hfi⟩).2.2.1
          unfold pm_Fr
          rw [pm_J_l f67, pm_J_l f67, pm_J_l f67, pm_J_l f67, pm_J_l f67, pm_J_l f67, v0, v1, v2, v3, w4, w5]
          refine ⟨?_, ?_, ?_, ?_, ?_, ?_, ?_⟩
          · rw [es]; exact s0.symm
          · rw [p30]; exact s1.symm
          · rw [p5]; exact s2.symm
          · rw [p29]; exact s3.symm
          · rw [p38]; exact s4
          · rw [p13]; exact s5
          · rw [ea] at g ⊢
            exact pm_d5p ha1 ha2 g
    · have c12' : c = 12 := by omega
      have eC : csa x w f = (x, w) := by
        unfold csa
        rw [hx', if_neg (show ¬ Int32.ofNat c < 12 from nI_nlt (b := 12) (by omega) (by omega))]
      rw [eC, pm_ms_n0 c12 hy' (Or.inl c12')]
      exact hK
  · rw [if_neg g, pm_ms_n0 c12 hy' (Or.inr (by rw [← es]; exact g))]
    exact hK
theorem pm_ms_1 {y : Nat → Nat → Int32} {v : Nat → Nat → Bool} {f : Nat → Nat → Nat} {c : Nat} (hc : c < 12) (hy : y 74 0 = Int32.ofNat c) (hd : y 68 1 - y 68 1 / 5 * 5 = 0) : ∃ Y, ms1 y v f = (Y, v) ∧ pm_Sn y Y 0 (0 + 6 * c) c (y 68 1 / 5) (if v 72 1 = true then y 73 6 else 0) (y 69 1) (q841 y v f) (if q831 y v f = true then 1 else 0) 0 := by
  have n12 : ¬ Int32.ofNat c = 12 := fun g => by
    have := (nI_eq (by omega) (by decide)).mp (show nI c = nI 12 from g)
    omega
  have e1 : ∀ (d : Int32) (Y : Nat → Nat → Int32), Y 74 0 = Int32.ofNat c → q891_157 c d Y v f = (pm_up (pm_up Y 75 (0 + 6 * c + 5) d) 74 0 (Int32.ofNat (c + 1)), v) := by
    intro d Y h
    unfold q891_157
    rw [h, show Int32.ofNat c + 1 = Int32.ofNat (c + 1) from nI_1 c]
  have e2 : ∀ (b : Int32) (Y : Nat → Nat → Int32), Y 74 0 = Int32.ofNat c → q891_133 c b Y v f = (pm_up (pm_up (pm_up Y 75 (0 + 6 * c + 4) b) 75 (0 + 6 * c + 5) 0) 74 0 (Int32.ofNat (c + 1)), v) := by
    intro b Y h
    unfold q891_133
    exact e1 0 (pm_up Y 75 (0 + 6 * c + 4) b) h
  have e3 : ∀ (e : Int32) (Y : Nat → Nat → Int32), Y 74 0 = Int32.ofNat c → q891_85 c e Y v f = (pm_up (pm_up (pm_up (pm_up (pm_up (pm_up Y 75 (0 + 6 * c + 1) e) 75 (0 + 6 * c + 2) (Y 69 1)) 75 (0 + 6 * c + 3) (q841 Y v f)) 75 (0 + 6 * c + 4) (if q831 Y v f = true then 1 else 0)) 75 (0 + 6 * c + 5) 0) 74 0 (Int32.ofNat (c + 1)), v) := by
    intro e Y h
    have z : q841 (pm_up (pm_up Y 75 (0 + 6 * c + 1) e) 75 (0 + 6 * c + 2) (Y 69 1)) v f = q841 Y v f := rfl
    have z2 : ∀ d : Int32, q831 (pm_up (pm_up (pm_up Y 75 (0 + 6 * c + 1) e) 75 (0 + 6 * c + 2) (Y 69 1)) 75 (0 + 6 * c + 3) d) v f = q831 Y v f := fun d => by
      unfold q831
      rw [pm_e821, pm_e821]
      rfl
    unfold q891_85
    rw [z, z2, e2 1 (pm_up (pm_up (pm_up Y 75 (0 + 6 * c + 1) e) 75 (0 + 6 * c + 2) (Y 69 1)) 75 (0 + 6 * c + 3) (q841 Y v f)) h, e2 0 (pm_up (pm_up (pm_up Y 75 (0 + 6 * c + 1) e) 75 (0 + 6 * c + 2) (Y 69 1)) 75 (0 + 6 * c + 3) (q841 Y v f)) h]
    by_cases g : q831 Y v f = true
    · rw [if_pos g, if_pos g]
    · rw [if_neg g, if_neg g]
  have z3 : ∀ d : Int32, q831 (pm_up y 75 (0 + 6 * c) d) v f = q831 y v f := fun d => by
    unfold q831
    rw [pm_e821, pm_e821]
    rfl
  refine ⟨_, ?_, pm_Sn_of⟩
  unfold ms1
  rw [hy, if_neg n12, show (Int32.ofNat c).toNatClampNeg = c from nI_clamp (by omega)]
  unfold q891
  rw [if_pos hd, if_neg n12, pm_up_same hy, e3 (y 73 6) (pm_up y 75 (0 + 6 * c) (y 68 1 / 5)) hy, e3 0 (pm_up y 75 (0 + 6 * c) (y 68 1 / 5)) hy, z3]
  by_cases g : v 72 1 = true
  · rw [if_pos g, if_pos g]
    rfl
  · rw [if_neg g, if_neg g]
    rfl
theorem pm_ms_n1 {y : Nat → Nat → Int32} {v : Nat → Nat → Bool} {f : Nat → Nat → Nat} {c : Nat} (hc : c ≤ 12) (hy : y 74 0 = Int32.ofNat c) (hd : c = 12 ∨ ¬ y 68 1 - y 68 1 / 5 * 5 = 0) : ms1 y v f = (y, v) := by
  unfold ms1
  by_cases g : y 74 0 = 12
  · rw [if_pos g]
    unfold q891f
    rw [pm_up_same g]
    split <;> rfl
  · rw [if_neg g]
    have hc2 : c ≠ 12 := by
      rintro rfl
      exact g hy
    have hd2 : ¬ y 68 1 - y 68 1 / 5 * 5 = 0 := by
      rcases hd with q | q
      · exact absurd q hc2
      · exact q
    rw [hy, show (Int32.ofNat c).toNatClampNeg = c from nI_clamp (by omega)]
    unfold q891
    rw [if_neg hd2, pm_up_same hy]
theorem pm_pc_1 {x y : Nat → Nat → Int32} {w v : Nat → Nat → Bool} {f : Nat → Nat → Nat} {N a : Nat} (h : pm_KK N (pm_J x y) (pm_J w v) f) (ha1 : 1 ≤ a) (ha2 : a ≤ 256000) (ea : x 48 4 = Int32.ofNat a) : pm_KK N (pm_J (if x 48 4 - x 48 4 / 5 * 5 = 0 then csb x w f else (x, w)).1 (ms1 y v f).1) (pm_J (if x 48 4 - x 48 4 / 5 * 5 = 0 then csb x w f else (x, w)).2 (ms1 y v f).2) f := by
  have hK := h
  obtain ⟨h1, h2, h3, h4, h5, hf, l0, l1, hfi⟩ := h
  have es : x 48 4 = y 68 1 := (pm_P0_of hK).2.2.2.1
  obtain ⟨c, c12, hx, hy, hF⟩ := id l0
  have hx' : x 1 1 = Int32.ofNat c := hx
  have hy' : y 74 0 = Int32.ofNat c := hy
  by_cases g : x 48 4 - x 48 4 / 5 * 5 = 0
  · rw [if_pos g]
    by_cases gc : c < 12
    · obtain ⟨Y, eY, s0, s1, s2, s3, s4, s5, s6, s7, s8, s9⟩ := pm_ms_1 (v := v) (f := f) gc hy' (by rw [← es]; exact g)
      have hq := (hf c gc).1
      have hb := pm_F0_ne hq
      have eC : csb x w f = q23b (f 0 c) (pm_up x 1 1 (Int32.ofNat (c + 1))) w f := by
        unfold csb
        rw [hx', if_pos (show Int32.ofNat c < 12 from nI_lt (b := 12) gc (by decide)), show (Int32.ofNat c).toNatClampNeg = c from nI_clamp (by omega), show Int32.ofNat c + 1 = Int32.ofNat (c + 1) from nI_1 c]
      rw [eY, eC]
      have lx : ∀ aa, aa ≠ f 0 c → (q23b (f 0 c) (pm_up x 1 1 (Int32.ofNat (c + 1))) w f).1 aa = pm_up x 1 1 (Int32.ofNat (c + 1)) aa ∧ (q23b (f 0 c) (pm_up x 1 1 (Int32.ofNat (c + 1))) w f).2 aa = w aa := fun aa g => l23b (f 0 c) (pm_up x 1 1 (Int32.ofNat (c + 1))) w f hq aa g
      have ax : ∀ aa, aa ≠ f 0 c → aa ≠ 1 → (q23b (f 0 c) (pm_up x 1 1 (Int32.ofNat (c + 1))) w f).1 aa = x aa := fun aa g1 g2 => (lx aa g1).1.trans (pm_up_ne g2)
      have n29 : (48 : Nat) ≠ f 0 c := by omega
      have n31 : (50 : Nat) ≠ f 0 c := by omega
      have w4 : (q23b (f 0 c) (pm_up x 1 1 (Int32.ofNat (c + 1))) w f).2 (f 0 c) 4 = q44b x w f := by
        have e : ∀ X : Nat → Nat → Int32, (∀ k, 51 ≤ k → X k = x k) → q44b X w f = q44b x w f := by
          intro X hX
          unfold q44b
          rw [pm_q28b_c hX]
        unfold q23b
        dsimp only
        rw [pm_up_at, if_neg (by decide), pm_up_at, if_pos rfl]
        apply e
        intro k hk
        rw [pm_up_ne (by omega), pm_up_ne (by omega), pm_up_ne (by omega), pm_up_ne (by omega), pm_up_ne (by omega)]
      have w5 : (q23b (f 0 c) (pm_up x 1 1 (Int32.ofNat (c + 1))) w f).2 (f 0 c) 5 = false := by
        unfold q23b q45b
        dsimp only
        rw [pm_up_at, if_pos rfl]
      have v0 : (q23b (f 0 c) (pm_up x 1 1 (Int32.ofNat (c + 1))) w f).1 (f 0 c) 0 = x 48 4 / 5 := by
        unfold q23b
        dsimp only
        rw [pm_up_at, if_neg (by decide), pm_up_at, if_neg (by decide), pm_up_at, if_neg (by decide), pm_up_at, if_pos rfl]
        rfl
      have v1 : (q23b (f 0 c) (pm_up x 1 1 (Int32.ofNat (c + 1))) w f).1 (f 0 c) 1 = x 50 0 := by
        unfold q23b
        dsimp only
        rw [pm_up_at, if_neg (by decide), pm_up_at, if_neg (by decide), pm_up_at, if_pos rfl]
        rfl
      have v2 : (q23b (f 0 c) (pm_up x 1 1 (Int32.ofNat (c + 1))) w f).1 (f 0 c) 2 = x 48 5 := by
        unfold q23b
        dsimp only
        rw [pm_up_at, if_neg (by decide), pm_up_at, if_pos rfl]
        rfl
      have v3 : (q23b (f 0 c) (pm_up x 1 1 (Int32.ofNat (c + 1))) w f).1 (f 0 c) 3 = q29b x w f := by
        unfold q23b
        dsimp only
        rw [pm_up_at, if_pos rfl]
        rfl
      have fl : ∀ k, pm_fl k = true → (k < 67 → k ≠ f 0 c ∧ k ≠ 1) ∧ k ≠ 74 ∧ k ≠ 75 := fun k g => by
        have := pm_fl_d g
        omega
      have f67 : f 0 c < 67 := by omega
      refine pm_pc_k hK (fun k j g => ?_) (fun k j g => ?_) ⟨hf, ?_, ?_, hfi⟩
      · obtain ⟨t1, t2, t3⟩ := fl k g
        by_cases k67 : k < 67
        · rw [pm_J_l k67, pm_J_l k67, ax k (t1 k67).1 (t1 k67).2]
        · rw [pm_J_g (by omega), pm_J_g (by omega)]
          exact congrFun (s9 k t2 t3) j
      · obtain ⟨t1, t2, t3⟩ := fl k g
        by_cases k67 : k < 67
        · rw [pm_J_l k67, pm_J_l k67, (lx k (t1 k67).1).2]
        · rw [pm_J_g (by omega), pm_J_g (by omega)]
      · refine pm_Li_add l0 hx gc ?_ s6 (fun j hj k => ?_) (fun j r hj hr => ?_) ?_
        · show (q23b (f 0 c) (pm_up x 1 1 (Int32.ofNat (c + 1))) w f).1 1 1 = Int32.ofNat (c + 1)
          rw [(lx 1 (by omega)).1]
          rfl
        · have bj := pm_F0_ne (hf j (by omega)).1
          have nj : f 0 j ≠ f 0 c := fun e => by
            have := hfi 0 j c (by omega) gc (by omega) e
            omega
          rw [pm_J_l (by omega), pm_J_l (by omega), pm_J_l (by omega), pm_J_l (by omega), ax _ nj (by omega), (lx _ nj).2]
          exact ⟨rfl, rfl⟩
        · show Y 75 (0 + 6 * j + r) = y 75 (0 + 6 * j + r)
          exact s7 _ (by omega)
        · have p30 : x 50 0 = (if v 72 1 = true then y 73 6 else 0) := by
            rcases h5 with ⟨n0, n1, -⟩ | ⟨n0, n1, -⟩
            · rw [if_pos (show v 72 1 = true from n0)]
              exact n1
            · rw [if_neg (show ¬ v 72 1 = true by rw [show v 72 1 = false from n0]; exact Bool.false_ne_true)]
              exact n1
          have p38 : q44b x w f = q831 y v f := by
            have t1 : q28b x w f = q821 (pm_J x y) (pm_J w v) f := pm_e28b (f := f) h1 h2
            have t2 : q821 (pm_J x y) (pm_J w v) f = q821 y v f := by
              rw [pm_e821, pm_e821]
              rfl
            unfold q44b q831
            rw [t1, t2]
          have p29 : q29b x w f = q841 y v f := pm_e29_1 h2
          have p5 : x 48 5 = y 69 1 := (pm_Sd_of h3 h4 h5 ⟨hf, l0, l1, hfi⟩).2.2.2.1
          unfold pm_Fr
          rw [pm_J_l f67, pm_J_l f67, pm_J_l f67, pm_J_l f67, pm_J_l f67, pm_J_l f67, v0, v1, v2, v3, w4, w5]
          refine ⟨?_, ?_, ?_, ?_, ?_, ?_, ?_⟩
          · rw [es]; exact s0.symm
          · rw [p30]; exact s1.symm
          · rw [p5]; exact s2.symm
          · rw [p29]; exact s3.symm
          · rw [p38]; exact s4
          · exact s5
          · rw [ea] at g ⊢
            exact pm_d5p ha1 ha2 g
      · refine pm_Li_c l1 ?_ ?_ (fun j hj k => ?_) (fun i r hi hr => ?_) (fun _ _ => rfl)
        · show (q23b (f 0 c) (pm_up x 1 1 (Int32.ofNat (c + 1))) w f).1 15 1 = x 15 1
          rw [ax 15 (by omega) (by omega)]
        · show Y 74 1 = y 74 1
          exact s8 1 (by decide)
        · have b0 := pm_F1_ne (hf j hj).2
          rw [pm_J_l (by omega), pm_J_l (by omega), pm_J_l (by omega), pm_J_l (by omega), ax _ (by omega) (by omega), (lx _ (by omega)).2]
          exact ⟨rfl, rfl⟩
        · show Y 75 (72 + 6 * i + r) = y 75 (72 + 6 * i + r)
          exact s7 _ (by omega)
    · have c12' : c = 12 := by omega
      have eC : csb x w f = (x, w) := by
        unfold csb
        rw [hx', if_neg (show ¬ Int32.ofNat c < 12 from nI_nlt (b := 12) (by omega) (by omega))]
      rw [eC, pm_ms_n1 c12 hy' (Or.inl c12')]
      exact hK
  · rw [if_neg g, pm_ms_n1 c12 hy' (Or.inr (by rw [← es]; exact g))]
    exact hK

/-! The watch behind a step; one step; many steps. -/
theorem pm_J_ul {α : Type} {a b : Nat → Nat → α} {k j : Nat} {c : α} (h : k < 67) : pm_J (pm_up a k j c) b = pm_up (pm_J a b) k j c := by
  funext p q
  by_cases g : p < 67
  · rw [pm_J_l g, pm_up_eq, pm_up_eq, pm_J_l g]
  · rw [pm_J_g (by omega), pm_up_eq, if_neg (by omega), pm_J_g (by omega)]
theorem pm_J_ug {α : Type} {a b : Nat → Nat → α} {k j : Nat} {c : α} (h : 67 ≤ k) : pm_J a (pm_up b k j c) = pm_up (pm_J a b) k j c := by
  funext p q
  by_cases g : p < 67
  · rw [pm_J_l g, pm_up_eq, if_neg (by omega), pm_J_l g]
  · rw [pm_J_g (by omega), pm_up_eq, pm_up_eq, pm_J_g (by omega)]
theorem pm_J_el {α : Type} {a b : Nat → Nat → α} (h : ∀ k, 67 ≤ k → b k = a k) : pm_J a b = a := by
  funext p q
  by_cases g : p < 67
  · rw [pm_J_l g]
  · rw [pm_J_g (by omega), h p (by omega)]
theorem pm_J_eg {α : Type} {a b : Nat → Nat → α} (h : ∀ k, k < 67 → b k = a k) : pm_J a b = b := by
  funext p q
  by_cases g : p < 67
  · rw [pm_J_l g, h p g]
  · rw [pm_J_g (by omega)]
def pm_tq (k j : Nat) : Bool := (Nat.beq k 0 && (Nat.beq j 2 || Nat.beq j 3)) || (Nat.beq k 67 && (Nat.beq j 22 || Nat.beq j 23))
theorem pm_tq_l {k j : Nat} (h : (1 ≤ k ∧ k ≤ 28) ∨ k = 74 ∨ k = 75) : pm_tq k j = false := by
  have n0 : Nat.beq k 0 = false := Bool.eq_false_iff.mpr (fun g => by have := Nat.eq_of_beq_eq_true g; omega)
  have n1 : Nat.beq k 67 = false := Bool.eq_false_iff.mpr (fun g => by have := Nat.eq_of_beq_eq_true g; omega)
  unfold pm_tq
  rw [n0, n1]
  rfl
theorem pm_tqu {x : Nat → Nat → Int32} {k j p r : Nat} {c : Int32} (h : pm_tq k j = false) (h2 : pm_tq p r = true) : pm_up x p r c k j = x k j := by
  rw [pm_up_eq, if_neg]
  rintro ⟨rfl, rfl⟩
  rw [h] at h2
  cases h2
theorem pm_pd_k {z z' : Nat → Nat → Int32} {u : Nat → Nat → Bool} {f : Nat → Nat → Nat} {N : Nat} (h : pm_KK N z u f) (e : ∀ k j, pm_tq k j = false → z' k j = z k j) (hR : pm_R1 z') (hz : pm_Sz z') : pm_KK N z' u f := by
  obtain ⟨h1, h2, h3, h4, h5, h6⟩ := h
  have N0 := Nat.le_refl N
  exact ⟨hR, h2, ⟨pm_Sx_t N0 h3.1 (e 29 4 rfl) (e 29 5 rfl) (e 29 6 rfl) (e 29 7 rfl) (e 29 8 rfl) (e 68 0 rfl) (e 69 0 rfl) (e 70 0 rfl) (e 71 0 rfl), pm_Sx_t N0 h3.2.1 (e 48 4 rfl) (e 48 5 rfl) (e 48 6 rfl) (e 48 7 rfl) (e 48 8 rfl) (e 68 1 rfl) (e 69 1 rfl) (e 70 1 rfl) (e 71 1 rfl), hz, pm_Re_t N0 h3.2.2.2 (e 29 12 rfl) (e 67 20 rfl)⟩, pm_N_c h4 (fun r => e 31 r rfl) (fun _ => rfl) rfl (fun r _ => e 73 _ rfl), pm_N_c h5 (fun r => e 50 r rfl) (fun _ => rfl) rfl (fun r _ => e 73 _ rfl), pm_Ls_t h6 (fun k j g => e k j (pm_tq_l g)) (fun _ _ _ _ => rfl)⟩
theorem pm_px_22 : ∀ q ∈ pm_px, ¬ (q.1.1 = 0 ∧ q.1.2 = 2) ∧ ¬ (q.1.1 = 67 ∧ q.1.2 = 22) ∧ ¬ (q.2.1.1 = 0 ∧ q.2.1.2 = 2) ∧ ¬ (q.2.1.1 = 67 ∧ q.2.1.2 = 22) := by decide +kernel
section PMW
variable {x y : Nat → Nat → Int32} {w v : Nat → Nat → Bool} {f : Nat → Nat → Nat} {N : Nat}
theorem pm_pd_0 {bf : Int32} (h : pm_KK N (pm_J x y) (pm_J w v) f) (hb : y 71 1 ≤ bf) : pm_KK N (pm_J (q65 x w f).1 (q90t0 bf y v f).1) (pm_J (q65 x w f).2 (q90t0 bf y v f).2) f := by
  have p9 : x 29 9 = y 67 17 := (h.1 ((29, 9), (67, 17), (-2000000, 2000000)) (by decide +kernel)).1
  have p10 : x 29 10 = y 67 18 := (h.1 ((29, 10), (67, 18), (0, 30000)) (by decide +kernel)).1
  have es : x 48 4 = y 68 1 := (pm_P0_of h).2.2.2.1
  have T : ∀ Y : Nat → Nat → Int32, Y 71 1 = y 71 1 → q90t0_130 bf Y v f = (Y, v) := by
    intro Y hY
    unfold q90t0_130
    rw [hY, if_pos hb]
  have T1 := T y rfl
  have T2 := T (pm_up y 67 22 (y 68 1)) rfl
  unfold q65 q39a q71 q90t0
  rw [T1, T2, p9, p10, es]
  by_cases g0 : y 67 18 = 0
  · rw [if_pos g0, if_pos g0]
    by_cases g1 : y 67 17 < -350
    · rw [if_pos g1, if_pos g1, if_neg Bool.false_ne_true, if_neg Bool.false_ne_true]
      exact h
    · rw [if_neg g1, if_neg g1]
      by_cases g2 : 350 < y 67 17
      · rw [if_pos g2, if_pos g2, if_neg Bool.false_ne_true, if_neg Bool.false_ne_true]
        exact h
      · rw [if_neg g2, if_neg g2, if_pos rfl, if_pos rfl]
        show pm_KK N (pm_J (pm_up x 0 2 (y 68 1)) (pm_up y 67 22 (y 68 1))) (pm_J w v) f
        rw [pm_J_ul (by omega), pm_J_ug (by omega)]
        refine pm_pd_k h (fun k j g => (pm_tqu g rfl).trans (pm_tqu g rfl)) (pm_R1_t h.1 (fun q hq => ?_)) (Or.inl rfl)
        obtain ⟨t1, t2, t3, t4⟩ := pm_px_22 q hq
        rw [pm_up_eq, if_neg t1, pm_up_eq, if_neg t2, pm_up_eq, if_neg t3, pm_up_eq, if_neg t4]
        exact ⟨rfl, rfl⟩
  · rw [if_neg g0, if_neg g0, if_neg Bool.false_ne_true]
    exact h
theorem pm_st25 : ∀ a, a < 25 → ¬ Int32.ofNat a - 25 ≤ -1000000 ∧ ¬ Int32.ofNat a - 25 ≤ -1000 := by decide +kernel
theorem pm_st {a : Nat} (h : a ≤ 256000) : ¬ Int32.ofNat a - 25 ≤ -1000000 ∧ ¬ Int32.ofNat a - 25 ≤ -1000 := by
  by_cases g : a < 25
  · exact pm_st25 a g
  · have e : Int32.ofNat a - 25 = Int32.ofNat (a - 25) := pm_sub (b := 25) (by omega)
    have p : (0 : Int32) ≤ Int32.ofNat (a - 25) := nI_pos' (by omega)
    rw [e]
    exact ⟨fun q => absurd (Int32.le_trans p q) (by decide), fun q => absurd (Int32.le_trans p q) (by decide)⟩
theorem pm_pd_1 {bf : Int32} (h : pm_KK N (pm_J x y) (pm_J w v) f) (hb : (x 48 7 = x 48 4 ∧ ¬ y 71 1 ≤ bf) ∨ (¬ x 48 7 = x 48 4 ∧ y 71 1 ≤ bf)) : pm_KK N (pm_J (q66 x w f).1 (q90t1 bf y v f).1) (pm_J (q66 x w f).2 (q90t1 bf y v f).2) f := by
  have p3 : x 0 3 = y 67 23 := (h.1 ((0, 3), (67, 23), (-2147483648, 2147483647)) (by decide +kernel)).1
  unfold q66 q90t1 q90t1_130
  rcases hb with ⟨g1, g2⟩ | ⟨g1, g2⟩
  · rw [if_pos g1, if_neg g2]
    have ee : x 48 4 - 25 ≤ x 0 2 ↔ y 68 1 - 25 ≤ y 67 22 := by
      obtain ⟨a, b, c, o, a1, a2, a3, a4, a5, e1, e2, -⟩ := h.2.2.1.2.1
      have e1' : x 48 4 = Int32.ofNat a := e1
      have e2' : y 68 1 = Int32.ofNat a := e2
      rw [e1', e2']
      rcases h.2.2.1.2.2.1 with g | ⟨g, g'⟩
      · have g' : x 0 2 = y 67 22 := g
        rw [g']
      · have t1 : x 0 2 = -1000000 := g
        have t2 : y 67 22 = -1000 := g'
        rw [t1, t2]
        exact ⟨fun q => absurd q (pm_st a2).1, fun q => absurd q (pm_st a2).2⟩
    by_cases g3 : x 48 4 - 25 ≤ x 0 2
    · rw [if_pos g3, if_pos (ee.mp g3)]
      exact h
    · rw [if_neg g3, if_neg (fun q => g3 (ee.mpr q)), p3]
      show pm_KK N (pm_J (pm_up x 0 3 (y 67 23 + 1)) (pm_up y 67 23 (y 67 23 + 1))) (pm_J w v) f
      rw [pm_J_ul (by omega), pm_J_ug (by omega)]
      have hp : ((0, 3), (67, 23), (-2147483648, 2147483647)) ∈ pm_px := by decide +kernel
      have hR := pm_R1_up (v := y 67 23 + 1) h.1 hp (pm_all _).1 (pm_all _).2
      refine pm_pd_k h (fun k j g => ?_) ?_ ?_
      · rw [pm_up_eq]
        by_cases q : k = 0 ∧ j = 3
        · rw [q.1, q.2] at g
          cases g
        · rw [if_neg q]
          exact pm_tqu g rfl
      · intro q hq
        have z := hR q hq
        dsimp only at z
        have sw : ∀ k j, pm_up (pm_up (pm_J x y) 67 23 (y 67 23 + 1)) 0 3 (y 67 23 + 1) k j = pm_up (pm_up (pm_J x y) 0 3 (y 67 23 + 1)) 67 23 (y 67 23 + 1) k j := by
          intro k j
          rw [pm_up_eq, pm_up_eq, pm_up_eq, pm_up_eq]
          split <;> split <;> rfl
        rw [sw, sw]
        exact z
      · exact pm_Sz_t h.2.2.1.2.2.1 rfl rfl
  · rw [if_neg g1, if_pos g2]
    exact h
/-- one step -/
theorem pm_ln_of {p s t : Nat} (h : pm_Li p s t x w f) : pm_ln x p := by
  obtain ⟨c, h12, e1, -⟩ := h
  exact ⟨c, h12, e1⟩
theorem pm_mn_of {p s t : Nat} (h : pm_Li p s t x w f) : pm_mn x s := by
  obtain ⟨c, h12, -, e2, -⟩ := h
  exact ⟨c, h12, e2⟩
theorem pm_stp_0 (h : pm_KK N (pm_J x y) (pm_J w v) f) (hN : N + 1 ≤ 256000) : pm_KK (N + 1) (pm_J (cta x w f).1 (mt0 y v f).1) (pm_J (cta x w f).2 (mt0 y v f).2) f := by
  obtain ⟨x2, y2, e1, e2, K2, b2, a, ha1, ha2, ea⟩ := pm_pa_0 h hN
  have hs : x2 29 5 = y2 69 0 := (pm_Sd_of K2.2.2.1 K2.2.2.2.1 K2.2.2.2.2.1 K2.2.2.2.2.2).2.2.1
  have C := pm_CHc_0 (f := f) (v0 := y 71 1) K2.1 K2.2.1 hs K2.2.2.2.1
  have ev : (q900_64 (y 71 1) y2 v f).1 = y 71 1 := pm_CHv_0
  unfold cta mt0 caa
  rw [e1, e2, ev]
  generalize q21a_18 x2 w f = X at C ⊢
  generalize q900_64 (y 71 1) y2 v f = Y at C ⊢
  have K3 := pm_pb_0 K2 C
  have ea3 : X.1 29 4 = Int32.ofNat a := by
    rw [(C.1 29 (by omega)).1]
    exact ea
  have K4 := pm_pc_0 K3 ha1 ha2 ea3
  refine pm_pd_0 K4 ?_
  have hm : pm_mn Y.2.1 1 := by
    obtain ⟨c, c12, -, g, -⟩ := K3.2.2.2.2.2.2.2.1
    exact ⟨c, c12, g⟩
  rw [(lms0 Y.2.1 Y.2.2 f hm 71 (by omega) (by omega)).1, (C.2.1 71 (by omega)).1, b2]
  exact Int32.le_refl _
theorem pm_stp_1 (h : pm_KK N (pm_J x y) (pm_J w v) f) (hN : N + 1 ≤ 256000) : pm_KK (N + 1) (pm_J (ctb x w f).1 (mt1 y v f).1) (pm_J (ctb x w f).2 (mt1 y v f).2) f := by
  obtain ⟨x2, y2, e1, e2, K2, b2, a, ha1, ha2, ea⟩ := pm_pa_1 h hN
  have hs : x2 48 5 = y2 69 1 := (pm_Sd_of K2.2.2.1 K2.2.2.2.1 K2.2.2.2.2.1 K2.2.2.2.2.2).2.2.2.1
  have C := pm_CHc_1 (f := f) (v0 := y 71 1) K2.1 K2.2.1 hs K2.2.2.2.2.1
  have ev : (q901_64 (y 71 1) y2 v f).1 = y 71 1 := pm_CHv_1
  unfold ctb mt1 cab
  rw [e1, e2, ev]
  generalize q21b_18 x2 w f = X at C ⊢
  generalize q901_64 (y 71 1) y2 v f = Y at C ⊢
  have K3 := pm_pb_1 K2 C
  have x48 : X.1 48 = x2 48 := (C.1 48 (by omega)).1
  have ea3 : X.1 48 4 = Int32.ofNat a := by
    rw [x48]
    exact ea
  have K4 := pm_pc_1 K3 ha1 ha2 ea3
  refine pm_pd_1 K4 ?_
  have hm : pm_mn Y.2.1 0 := by
    obtain ⟨c, c12, -, g, -⟩ := K3.2.2.2.2.2.2.1
    exact ⟨c, c12, g⟩
  have hl : pm_ln X.1 1 := by
    obtain ⟨c, c12, g, -⟩ := K3.2.2.2.2.2.2.1
    exact ⟨c, c12, g⟩
  have s48 : (if X.1 48 4 - X.1 48 4 / 5 * 5 = 0 then csb X.1 X.2 f else (X.1, X.2)).1 48 = x2 48 := by
    split
    · rw [(lcsb X.1 X.2 f hl K3.2.2.2.2.2.1 48 (by omega) (by omega)).1, x48]
    · exact x48
  rw [(lms1 Y.2.1 Y.2.2 f hm 71 (by omega) (by omega)).1, (C.2.1 71 (by omega)).1]
  show ((if X.1 48 4 - X.1 48 4 / 5 * 5 = 0 then csb X.1 X.2 f else (X.1, X.2)).1 48 7 = (if X.1 48 4 - X.1 48 4 / 5 * 5 = 0 then csb X.1 X.2 f else (X.1, X.2)).1 48 4 ∧ _) ∨ (¬ (if X.1 48 4 - X.1 48 4 / 5 * 5 = 0 then csb X.1 X.2 f else (X.1, X.2)).1 48 7 = (if X.1 48 4 - X.1 48 4 / 5 * 5 = 0 then csb X.1 X.2 f else (X.1, X.2)).1 48 4 ∧ _)
  rw [s48]
  exact b2
end PMW
section PMI0
variable {f : Nat → Nat → Nat}
theorem pm_ind_0 : ∀ (m N : Nat) (z z' : (Nat → Nat → Int32) × (Nat → Nat → Bool)), N + m ≤ 256000 → pm_KK N (pm_J z.1 z'.1) (pm_J z.2 z'.2) f → pm_KK (N + m) (pm_J (cia f m z).1 (mi0 f m z').1) (pm_J (cia f m z).2 (mi0 f m z').2) f
  | 0, N, z, z', _, h => h
  | m + 1, N, z, z', hN, h => by
    have := pm_ind_0 m (N + 1) (cta z.1 z.2 f) (mt0 z'.1 z'.2 f) (by omega) (pm_stp_0 h (by omega))
    rw [show N + (m + 1) = N + 1 + m by omega]
    exact this
theorem pm_hp_0 {x : Nat → Nat → Int32} {w : Nat → Nat → Bool} (h : pm_mn x 1) : pm_mn (mt0 x w f).1 1 := by
  have h2 : pm_mn (q900 x w f).2.1 1 := by
    obtain ⟨n, hn, hx⟩ := h
    exact ⟨n, hn, by rw [(l900 x w f 74 (by omega)).1]; exact hx⟩
  unfold mt0
  generalize q900 x w f = t at h2 ⊢
  have h3 : pm_mn (ms0 t.2.1 t.2.2 f).1 1 := by
    obtain ⟨c, hc, hy⟩ := h2
    by_cases g : c < 12 ∧ t.2.1 68 0 - t.2.1 68 0 / 5 * 5 = 0
    · obtain ⟨Y, eY, s0, s1, s2, s3, s4, s5, s6, -⟩ := pm_ms_0 (v := t.2.2) (f := f) g.1 hy g.2
      rw [eY]
      exact ⟨c + 1, by omega, s6⟩
    · rw [pm_ms_n0 hc hy (by
        by_cases q : c < 12
        · exact Or.inr (fun r => g ⟨q, r⟩)
        · exact Or.inl (by omega))]
      exact ⟨c, hc, hy⟩
  obtain ⟨n, hn, hx⟩ := h3
  exact ⟨n, hn, by rw [(l90t0 t.1 _ _ f 74 (by omega)).1]; exact hx⟩
theorem pm_lct_0 {x : Nat → Nat → Int32} {w : Nat → Nat → Bool} (hl : pm_ln x 15) (hf : pm_ff f) {aa : Nat} (ha : 67 ≤ aa) : (cta x w f).1 aa = x aa ∧ (cta x w f).2 aa = w aa := by
  have h1 := l21a x w f aa (by omega)
  have hl2 : pm_ln (q21a x w f).1 15 := by
    obtain ⟨n, hn, hx⟩ := hl
    exact ⟨n, hn, by rw [(l21a x w f 15 (by omega)).1]; exact hx⟩
  have h2 : (caa x w f).1 aa = x aa ∧ (caa x w f).2 aa = w aa := by
    unfold caa
    generalize q21a x w f = t at h1 hl2 ⊢
    by_cases g : t.1 29 4 - t.1 29 4 / 5 * 5 = 0
    · rw [if_pos g]
      have h3 := lcsa t.1 t.2 f hl2 hf aa (by omega) (by omega)
      exact ⟨h3.1.trans h1.1, h3.2.trans h1.2⟩
    · rw [if_neg g]
      exact h1
  have h4 := k65 (caa x w f).1 (caa x w f).2 f aa (by omega)
  unfold cta
  exact ⟨h4.1.trans h2.1, h4.2.trans h2.2⟩
theorem pm_lci_0 (hf : pm_ff f) {aa : Nat} (ha : 67 ≤ aa) : ∀ (m : Nat) (z : (Nat → Nat → Int32) × (Nat → Nat → Bool)), pm_ln z.1 15 → (cia f m z).1 aa = z.1 aa ∧ (cia f m z).2 aa = z.2 aa
  | 0, z, _ => ⟨rfl, rfl⟩
  | m + 1, z, hl => by
    have h1 := pm_lci_0 hf ha m (cta z.1 z.2 f) (ncta z.1 z.2 f hl hf)
    have h2 := pm_lct_0 (w := z.2) hl hf ha
    exact ⟨h1.1.trans h2.1, h1.2.trans h2.2⟩
theorem pm_lmt_0 {x : Nat → Nat → Int32} {w : Nat → Nat → Bool} (hl : pm_mn x 1) {aa : Nat} (ha : aa < 67) : (mt0 x w f).1 aa = x aa ∧ (mt0 x w f).2 aa = w aa := by
  have h1 := l900 x w f aa (by omega)
  have h2 : pm_mn (q900 x w f).2.1 1 := by
    obtain ⟨n, hn, hx⟩ := hl
    exact ⟨n, hn, by rw [(l900 x w f 74 (by omega)).1]; exact hx⟩
  unfold mt0
  have h3 := lms0 (q900 x w f).2.1 (q900 x w f).2.2 f h2 aa (by omega) (by omega)
  have h4 := l90t0 (q900 x w f).1 (ms0 (q900 x w f).2.1 (q900 x w f).2.2 f).1 (ms0 (q900 x w f).2.1 (q900 x w f).2.2 f).2 f aa (by omega)
  exact ⟨h4.1.trans (h3.1.trans h1.1), h4.2.trans (h3.2.trans h1.2)⟩
theorem pm_lmi_0 {aa : Nat} (ha : aa < 67) : ∀ (m : Nat) (z : (Nat → Nat → Int32) × (Nat → Nat → Bool)), pm_mn z.1 1 → (mi0 f m z).1 aa = z.1 aa ∧ (mi0 f m z).2 aa = z.2 aa
  | 0, z, _ => ⟨rfl, rfl⟩
  | m + 1, z, hl => by
    have h1 := pm_lmi_0 ha m (mt0 z.1 z.2 f) (pm_hp_0 hl)
    have h2 := pm_lmt_0 (f := f) (w := z.2) hl ha
    exact ⟨h1.1.trans h2.1, h1.2.trans h2.2⟩
/-- m steps by both, in the one memory -/
theorem pm_run_0 {N m : Nat} {x : Nat → Nat → Int32} {w : Nat → Nat → Bool} (hN : N + m ≤ 256000) (h : pm_KK N x w f) : pm_KK (N + m) (mi0 f m (cia f m (x, w))).1 (mi0 f m (cia f m (x, w))).2 f ∧ (cia f m (x, w)).1 29 4 = (mi0 f m (cia f m (x, w))).1 68 0 ∧ pm_mn (cia f m (x, w)).1 1 := by
  have hL := h.2.2.2.2.2
  have hl : pm_ln x 15 := pm_ln_of hL.2.2.1
  have lc : ∀ aa, 67 ≤ aa → (cia f m (x, w)).1 aa = x aa ∧ (cia f m (x, w)).2 aa = w aa := fun aa ha => pm_lci_0 hL.1 ha m (x, w) hl
  have hm : pm_mn (cia f m (x, w)).1 1 := by
    obtain ⟨n, hn, hx⟩ := pm_mn_of hL.2.2.1
    exact ⟨n, hn, by rw [(lc 74 (by omega)).1]; exact hx⟩
  have lm : ∀ aa, aa < 67 → (mi0 f m (cia f m (x, w))).1 aa = (cia f m (x, w)).1 aa ∧ (mi0 f m (cia f m (x, w))).2 aa = (cia f m (x, w)).2 aa := fun aa ha => pm_lmi_0 ha m (cia f m (x, w)) hm
  have K := pm_ind_0 (f := f) m N (x, w) (cia f m (x, w)) hN (by
    show pm_KK N (pm_J x (cia f m (x, w)).1) (pm_J w (cia f m (x, w)).2) f
    rw [pm_J_el (fun k hk => (lc k hk).1), pm_J_el (fun k hk => (lc k hk).2)]
    exact h)
  rw [pm_J_eg (fun k hk => (lm k hk).1), pm_J_eg (fun k hk => (lm k hk).2)] at K
  refine ⟨K, ?_, hm⟩
  have e := (pm_P0_of K).2.2.1
  rw [(lm 29 (by omega)).1] at e
  exact e
end PMI0
section PMI1
variable {f : Nat → Nat → Nat}
theorem pm_ind_1 : ∀ (m N : Nat) (z z' : (Nat → Nat → Int32) × (Nat → Nat → Bool)), N + m ≤ 256000 → pm_KK N (pm_J z.1 z'.1) (pm_J z.2 z'.2) f → pm_KK (N + m) (pm_J (cib f m z).1 (mi1 f m z').1) (pm_J (cib f m z).2 (mi1 f m z').2) f
  | 0, N, z, z', _, h => h
  | m + 1, N, z, z', hN, h => by
    have := pm_ind_1 m (N + 1) (ctb z.1 z.2 f) (mt1 z'.1 z'.2 f) (by omega) (pm_stp_1 h (by omega))
    rw [show N + (m + 1) = N + 1 + m by omega]
    exact this
theorem pm_hp_1 {x : Nat → Nat → Int32} {w : Nat → Nat → Bool} (h : pm_mn x 0) : pm_mn (mt1 x w f).1 0 := by
  have h2 : pm_mn (q901 x w f).2.1 0 := by
    obtain ⟨n, hn, hx⟩ := h
    exact ⟨n, hn, by rw [(l901 x w f 74 (by omega)).1]; exact hx⟩
  unfold mt1
  generalize q901 x w f = t at h2 ⊢
  have h3 : pm_mn (ms1 t.2.1 t.2.2 f).1 0 := by
    obtain ⟨c, hc, hy⟩ := h2
    by_cases g : c < 12 ∧ t.2.1 68 1 - t.2.1 68 1 / 5 * 5 = 0
    · obtain ⟨Y, eY, s0, s1, s2, s3, s4, s5, s6, -⟩ := pm_ms_1 (v := t.2.2) (f := f) g.1 hy g.2
      rw [eY]
      exact ⟨c + 1, by omega, s6⟩
    · rw [pm_ms_n1 hc hy (by
        by_cases q : c < 12
        · exact Or.inr (fun r => g ⟨q, r⟩)
        · exact Or.inl (by omega))]
      exact ⟨c, hc, hy⟩
  obtain ⟨n, hn, hx⟩ := h3
  exact ⟨n, hn, by rw [(l90t1 t.1 _ _ f 74 (by omega)).1]; exact hx⟩
theorem pm_lct_1 {x : Nat → Nat → Int32} {w : Nat → Nat → Bool} (hl : pm_ln x 1) (hf : pm_ff f) {aa : Nat} (ha : 67 ≤ aa) : (ctb x w f).1 aa = x aa ∧ (ctb x w f).2 aa = w aa := by
  have h1 := l21b x w f aa (by omega)
  have hl2 : pm_ln (q21b x w f).1 1 := by
    obtain ⟨n, hn, hx⟩ := hl
    exact ⟨n, hn, by rw [(l21b x w f 1 (by omega)).1]; exact hx⟩
  have h2 : (cab x w f).1 aa = x aa ∧ (cab x w f).2 aa = w aa := by
    unfold cab
    generalize q21b x w f = t at h1 hl2 ⊢
    by_cases g : t.1 48 4 - t.1 48 4 / 5 * 5 = 0
    · rw [if_pos g]
      have h3 := lcsb t.1 t.2 f hl2 hf aa (by omega) (by omega)
      exact ⟨h3.1.trans h1.1, h3.2.trans h1.2⟩
    · rw [if_neg g]
      exact h1
  have h4 := k66 (cab x w f).1 (cab x w f).2 f aa (by omega)
  unfold ctb
  exact ⟨h4.1.trans h2.1, h4.2.trans h2.2⟩
theorem pm_lci_1 (hf : pm_ff f) {aa : Nat} (ha : 67 ≤ aa) : ∀ (m : Nat) (z : (Nat → Nat → Int32) × (Nat → Nat → Bool)), pm_ln z.1 1 → (cib f m z).1 aa = z.1 aa ∧ (cib f m z).2 aa = z.2 aa
  | 0, z, _ => ⟨rfl, rfl⟩
  | m + 1, z, hl => by
    have h1 := pm_lci_1 hf ha m (ctb z.1 z.2 f) (nctb z.1 z.2 f hl hf)
    have h2 := pm_lct_1 (w := z.2) hl hf ha
    exact ⟨h1.1.trans h2.1, h1.2.trans h2.2⟩
theorem pm_lmt_1 {x : Nat → Nat → Int32} {w : Nat → Nat → Bool} (hl : pm_mn x 0) {aa : Nat} (ha : aa < 67) : (mt1 x w f).1 aa = x aa ∧ (mt1 x w f).2 aa = w aa := by
  have h1 := l901 x w f aa (by omega)
  have h2 : pm_mn (q901 x w f).2.1 0 := by
    obtain ⟨n, hn, hx⟩ := hl
    exact ⟨n, hn, by rw [(l901 x w f 74 (by omega)).1]; exact hx⟩
  unfold mt1
  have h3 := lms1 (q901 x w f).2.1 (q901 x w f).2.2 f h2 aa (by omega) (by omega)
  have h4 := l90t1 (q901 x w f).1 (ms1 (q901 x w f).2.1 (q901 x w f).2.2 f).1 (ms1 (q901 x w f).2.1 (q901 x w f).2.2 f).2 f aa (by omega)
  exact ⟨h4.1.trans (h3.1.trans h1.1), h4.2.trans (h3.2.trans h1.2)⟩
theorem pm_lmi_1 {aa : Nat} (ha : aa < 67) : ∀ (m : Nat) (z : (Nat → Nat → Int32) × (Nat → Nat → Bool)), pm_mn z.1 0 → (mi1 f m z).1 aa = z.1 aa ∧ (mi1 f m z).2 aa = z.2 aa
  | 0, z, _ => ⟨rfl, rfl⟩
  | m + 1, z, hl => by
    have h1 := pm_lmi_1 ha m (mt1 z.1 z.2 f) (pm_hp_1 hl)
    have h2 := pm_lmt_1 (f := f) (w := z.2) hl ha
    exact ⟨h1.1.trans h2.1, h1.2.trans h2.2⟩
/-- m steps by both, in the one memory -/
theorem pm_run_1 {N m : Nat} {x : Nat → Nat → Int32} {w : Nat → Nat → Bool} (hN : N + m ≤ 256000) (h : pm_KK N x w f) : pm_KK (N + m) (mi1 f m (cib f m (x, w))).1 (mi1 f m (cib f m (x, w))).2 f ∧ (cib f m (x, w)).1 48 4 = (mi1 f m (cib f m (x, w))).1 68 1 ∧ pm_mn (cib f m (x, w)).1 0 := by
  have hL := h.2.2.2.2.2
  have hl : pm_ln x 1 := pm_ln_of hL.2.1
  have lc : ∀ aa, 67 ≤ aa → (cib f m (x, w)).1 aa = x aa ∧ (cib f m (x, w)).2 aa = w aa := fun aa ha => pm_lci_1 hL.1 ha m (x, w) hl
  have hm : pm_mn (cib f m (x, w)).1 0 := by
    obtain ⟨n, hn, hx⟩ := pm_mn_of hL.2.1
    exact ⟨n, hn, by rw [(lc 74 (by omega)).1]; exact hx⟩
  have lm : ∀ aa, aa < 67 → (mi1 f m (cib f m (x, w))).1 aa = (cib f m (x, w)).1 aa ∧ (mi1 f m (cib f m (x, w))).2 aa = (cib f m (x, w)).2 aa := fun aa ha => pm_lmi_1 ha m (cib f m (x, w)) hm
  have K := pm_ind_1 (f := f) m N (x, w) (cib f m (x, w)) hN (by
    show pm_KK N (pm_J x (cib f m (x, w)).1) (pm_J w (cib f m (x, w)).2) f
    rw [pm_J_el (fun k hk => (lc k hk).1), pm_J_el (fun k hk => (lc k hk).2)]
    exact h)
  rw [pm_J_eg (fun k hk => (lm k hk).1), pm_J_eg (fun k hk => (lm k hk).2)] at K
  refine ⟨K, ?_, hm⟩
  have e := (pm_P0_of K).2.2.2.1
  rw [(lm 48 (by omega)).1] at e
  exact e
end PMI1
section PMG
variable {sc : pm_Sc}
theorem pm_KK_of {n : Nat} {x : Nat → Nat → Int32} {w : Nat → Nat → Bool} {f : Nat → Nat → Nat} (h : pm_I (pm_R3 (pm_Ab pm_B)) n x w f) : pm_KK (500 * n) x w f := ⟨h.1, h.2.1, h.2.2.1.1, h.2.2.1.2.1, h.2.2.1.2.2, h.2.2.2⟩
theorem pm_KK_I {N n : Nat} {x : Nat → Nat → Int32} {w : Nat → Nat → Bool} {f : Nat → Nat → Nat} (hN : N ≤ 500 * n) (h : pm_KK N x w f) : pm_I (pm_R3 (pm_Ab pm_B)) n x w f := ⟨h.1, h.2.1, ⟨pm_Bs_t hN h.2.2.1 (fun _ _ => rfl), h.2.2.2.1, h.2.2.2.2.1⟩, h.2.2.2.2.2⟩
theorem pm_C2_B : pm_C2 (pm_R3 (pm_Ab pm_B)) := pm_C2_R3 (pm_CA_Ab pm_CB_B)
theorem pm_g48 (a e : Int32) : pm_Go (pm_call pm_Tf sc 7) (pm_I (pm_R3 (pm_Ab pm_B))) 48 92 [.inl a, .inl e] := by
  intro n x w f hn h
  have K := pm_KK_of h
  have mo := pm_I_mo pm_C2_B h
  by_cases ha : q69 a x w f = true
  · by_cases he : q71 e 1 500 x w f = true
    · have g1 : ¬ e < 1 := by
        intro g
        exact pm_q71_f (Or.inl g) he
      have g2 : ¬ 500 < e := by
        intro g
        exact pm_q71_f (Or.inr g) he
      have g0 : ¬ e < 0 := fun g => g1 (Int32.lt_trans g (by decide))
      obtain ⟨m, hm, rfl⟩ := nI_of2 (M := 500) (n := 500) (by decide) g0 (Int32.not_lt.mp g2)
      have m1 : 1 ≤ m := by
        rcases Nat.eq_zero_or_pos m with g | g
        · subst g
          exact absurd (by decide : nI 0 < 1) g1
        · exact g
      have hf := h.2.2.2.1
      rcases pm_q69_c ha with rfl | rfl
      · obtain ⟨K2, e2, hm2⟩ := pm_run_0 (m := m) (by omega) K
        refine ⟨_, _, _, f, _, _, f, zsta (sc := sc) 1 m x w f m1 hm (pm_ln_of h.2.2.2.2.2.1) hf, ?_, pm_KK_I (by omega) K2⟩
        rw [e2]
        exact zmst0 (sc := sc) 1 m (cia f m (x, w)).1 (cia f m (x, w)).2 f m1 hm (fun _ _ q => pm_hp_0 q) hm2
      · obtain ⟨K2, e2, hm2⟩ := pm_run_1 (m := m) (by omega) K
        refine ⟨_, _, _, f, _, _, f, zstb (sc := sc) 1 m x w f m1 hm (pm_ln_of h.2.2.2.2.1) hf, ?_, pm_KK_I (by omega) K2⟩
        rw [e2]
        exact zmst1 (sc := sc) 1 m (cib f m (x, w)).1 (cib f m (x, w)).2 f m1 hm (fun _ _ q => pm_hp_1 q) hm2
    · rcases pm_q69_c ha with rfl | rfl
      · have z1 := z480m (sc := sc) 1 e x w f he
        have e1 : q480m e x w f = (-1, x, w) := by
          unfold q480m
          split <;> rfl
        rcases pm_q71_n he with g | ⟨g, g2⟩
        · exact pm_go_of z1 e1 (z920m (sc := sc) 1 e x w f (by unfold q91; decide) g) rfl mo
        · exact pm_go_of z1 e1 (z920n (sc := sc) 1 e x w f (by unfold q91; decide) g (Int32.not_le.mpr g2)) rfl mo
      · have z1 := z481m (sc := sc) 1 e x w f he
        have e1 : q481m e x w f = (-1, x, w) := by
          unfold q481m
          split <;> rfl
        rcases pm_q71_n he with g | ⟨g, g2⟩
        · exact pm_go_of z1 e1 (z921m (sc := sc) 1 e x w f (by unfold q91; decide) g) rfl mo
        · exact pm_go_of z1 e1 (z921n (sc := sc) 1 e x w f (by unfold q91; decide) g (Int32.not_le.mpr g2)) rfl mo
  · exact pm_go_of (z48s (sc := sc) 1 a e x w f ha) rfl (z92s (sc := sc) 1 a e x w f (pm_q91_s ha)) rfl mo
end PMG

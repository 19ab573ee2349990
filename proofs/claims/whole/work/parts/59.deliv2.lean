theorem pm_de0 {B : pm_Av} (hB : pm_CB B) {sc : pm_Sc} {n n' j : Nat} {x : Nat → Nat → Int32} {w : Nat → Nat → Bool} {f : Nat → Nat → Nat} (h : pm_I (pm_R3 (pm_Ab B)) n x w f) (hx : x 1 1 = Int32.ofNat (n' + 1)) (hy : x 74 0 = Int32.ofNat (n' + 1)) (hj : j ≤ n') (hn : n' < 12) (F : pm_Fr x w (f 0 j) (0 + 6 * j)) : ∃ (v : Int32) (x1 : Nat → Nat → Int32) (w1 : Nat → Nat → Bool) (f1 : Nat → Nat → Nat) (x2 : Nat → Nat → Int32) (w2 : Nat → Nat → Bool) (f2 : Nat → Nat → Nat), pm_call pm_Tf sc 7 56 [pm_r 0, .inl 0, .inl (Int32.ofNat j)] (pm_u x w f) = some (some (.inl v), pm_u x1 w1 f1) ∧ pm_call pm_Tf sc 7 103 [pm_r 67, .inl 0, .inl (Int32.ofNat j)] (pm_u x1 w1 f1) = some (some (.inl v), pm_u x2 w2 f2) ∧ pm_I (pm_R3 (pm_Ab B)) (n + 1) x2 w2 f2 := by
  have hL := h.2.2.2
  have hN := h.2.2.1.2.1
  obtain ⟨a0, a1, a2, a3, a4, a5, a6⟩ := F
  have z1 := zdel0 (sc := sc) 4 x w f n' j hx hj hn hL.1
  by_cases ht : x 31 0 < x (f 0 j) 0
  · have ec : ck0 (f 0 j) x w = (true, pm_cx x 31 (f 0 j), pm_cw w 31 (f 0 j)) := if_pos ht
    rw [ec] at z1
    dsimp only at z1
    have e75 : ∀ i, pm_up (pm_cx x 31 (f 0 j)) 1 1 (Int32.ofNat n') 75 i = x 75 i := fun i => by rw [pm_up_ne (by decide), pm_cx_ne (by decide)]
    have e73 : ∀ i, pm_up (pm_cx x 31 (f 0 j)) 1 1 (Int32.ofNat n') 73 i = x 73 i := fun i => by rw [pm_up_ne (by decide), pm_cx_ne (by decide)]
    have e74 : ∀ i, pm_up (pm_cx x 31 (f 0 j)) 1 1 (Int32.ofNat n') 74 i = x 74 i := fun i => by rw [pm_up_ne (by decide), pm_cx_ne (by decide)]
    have ew : ∀ i, pm_cw w 31 (f 0 j) 72 i = w 72 i := fun i => by rw [pm_cw_ne (by decide)]
    have em : mk0 j (pm_up (pm_cx x 31 (f 0 j)) 1 1 (Int32.ofNat n')) (pm_cw w 31 (f 0 j)) = (true, pm_s6 (pm_up (pm_cx x 31 (f 0 j)) 1 1 (Int32.ofNat n')) 0 (0 + 6 * j), pm_up (pm_cw w 31 (f 0 j)) 72 0 true) := by
      unfold mk0
      by_cases hw : pm_cw w 31 (f 0 j) 72 0 = true
      · rw [if_pos hw, if_neg ?_]
        · rfl
        · rw [e75, e73]
          rw [ew] at hw
          rcases hN with ⟨n0, m1, -⟩ | ⟨n0, m1, -⟩
          · rw [← m1, ← show x (f 0 j) 0 = x 75 (0 + 6 * j) from a0]
            exact Int32.not_le.mpr ht
          · rw [n0] at hw
            cases hw
      · rw [if_neg hw]
        rfl
    have z2 := zmde0 (sc := sc) 5 (pm_up (pm_cx x 31 (f 0 j)) 1 1 (Int32.ofNat n')) (pm_cw w 31 (f 0 j)) (pm_rmv f 0 j n') n' j ((e74 0).trans hy) hj hn
    rw [em] at z2
    dsimp only at z2
    have c := pm_cx_at (x := x) (q := 31) (q2 := f 0 j)
    have cw := pm_cw_at (w := w) (q := 31) (q2 := f 0 j)
    have yQ : ∀ r, pm_up (pm_tk (pm_s6 (pm_up (pm_cx x 31 (f 0 j)) 1 1 (Int32.ofNat n')) 0 (0 + 6 * j)) (0 + 6 * j) (0 + 6 * n')) 74 0 (Int32.ofNat n') 31 r = pm_cx x 31 (f 0 j) 31 r := fun r => by rw [pm_tk_t rfl, pm_s6_ne (Or.inl (by decide)), pm_up_ne (by decide)]
    have y73 : ∀ r, r < 6 → pm_up (pm_tk (pm_s6 (pm_up (pm_cx x 31 (f 0 j)) 1 1 (Int32.ofNat n')) 0 (0 + 6 * j)) (0 + 6 * j) (0 + 6 * n')) 74 0 (Int32.ofNat n') 73 (0 + r) = x 75 (0 + 6 * j + r) := fun r hr => by rw [pm_tk_t rfl, pm_s6_at r hr, e75]
    have vQ : ∀ r, pm_up (pm_cw w 31 (f 0 j)) 72 0 true 31 r = pm_cw w 31 (f 0 j) 31 r := fun r => by rw [pm_up_ne (by decide)]
    have K0 : pm_N 31 0 0 (pm_up (pm_tk (pm_s6 (pm_up (pm_cx x 31 (f 0 j)) 1 1 (Int32.ofNat n')) 0 (0 + 6 * j)) (0 + 6 * j) (0 + 6 * n')) 74 0 (Int32.ofNat n')) (pm_up (pm_cw w 31 (f 0 j)) 72 0 true) := by
      refine Or.inl ⟨by rw [pm_up_at, if_pos rfl], ?_, ?_, ?_, ?_, ?_, ?_⟩
      · exact (yQ 0).trans (c.1.trans (a0.trans (y73 0 (by decide)).symm))
      · exact (yQ 1).trans (c.2.1.trans (a1.trans (y73 1 (by decide)).symm))
      · exact (yQ 2).trans (c.2.2.1.trans (a2.trans (y73 2 (by decide)).symm))
      · exact (yQ 3).trans (c.2.2.2.trans (a3.trans (y73 3 (by decide)).symm))
      · rw [vQ, cw.1]; exact (y73 4 (by decide)).trans a4
      · rw [vQ, cw.2]; exact (y73 5 (by decide)).trans a5
    have K1 : pm_N 50 1 6 (pm_up (pm_tk (pm_s6 (pm_up (pm_cx x 31 (f 0 j)) 1 1 (Int32.ofNat n')) 0 (0 + 6 * j)) (0 + 6 * j) (0 + 6 * n')) 74 0 (Int32.ofNat n')) (pm_up (pm_cw w 31 (f 0 j)) 72 0 true) := by
      refine pm_N_c h.2.2.1.2.2 (fun r => ?_) (fun r => ?_) ?_ (fun r hr => ?_)
      · rw [pm_tk_t rfl, pm_s6_ne (Or.inl (by decide)), pm_up_ne (by decide), pm_cx_ne (by decide)]
      · rw [pm_up_ne (by decide), pm_cw_ne (by decide)]
      · rw [pm_up_at, if_neg (by decide), ew]
      · rw [pm_tk_t rfl, pm_s6_ne (by omega), e73]
    refine ⟨1, _, _, _, _, _, _, z1, z2, pm_I_n hB h (fun k i g => ?_) (fun k i g => ?_) K0 K1 (pm_Ls_c (pm_dr0 hL hx hj hn) (pm_tk_c fun k i g => ?_) (fun k i g => ?_))⟩
    · obtain ⟨fl, n31, n50, n72, n73, n1, n15⟩ := pm_fn_ne g
      rw [pm_tk_t fl, pm_s6_ne (Or.inl n73), pm_up_ne n1, pm_cx_ne n31]
    · obtain ⟨fl, n31, n50, n72, n73, n1, n15⟩ := pm_fn_ne g
      rw [pm_up_ne n72, pm_cw_ne n31]
    · have k1 : k ≠ 73 := fun e => by rw [e] at g; exact absurd g (by decide)
      have k2 : k ≠ 31 := fun e => by rw [e] at g; exact absurd g (by decide)
      rw [pm_s6_ne (Or.inl k1), pm_up_eq, pm_up_eq, pm_cx_ne k2]
    · have k1 : k ≠ 72 := fun e => by rw [e] at g; exact absurd g (by decide)
      have k2 : k ≠ 31 := fun e => by rw [e] at g; exact absurd g (by decide)
      rw [pm_up_ne k1, pm_cw_ne k2]
  · have ec : ck0 (f 0 j) x w = (false, x, w) := if_neg ht
    rw [ec] at z1
    dsimp only at z1
    rcases hN with ⟨n0, m1, -⟩ | ⟨n0, m1, -⟩
    · have em : mk0 j (pm_up x 1 1 (Int32.ofNat n')) w = (false, pm_up x 1 1 (Int32.ofNat n'), pm_up w 72 0 true) := by
        unfold mk0
        rw [if_pos n0, if_pos ?_]
        rw [pm_up_ne (by decide), pm_up_ne (by decide), ← m1, ← show x (f 0 j) 0 = x 75 (0 + 6 * j) from a0]
        exact Int32.not_lt.mp ht
      have z2 := zmde0 (sc := sc) 5 (pm_up x 1 1 (Int32.ofNat n')) w (pm_rmv f 0 j n') n' j ((congrFun (pm_up_ne (by decide)) _).trans hy) hj hn
      rw [em] at z2
      dsimp only at z2
      have ew : pm_up w 72 0 true = w := by
        funext k i
        rw [pm_up_eq]
        by_cases g : k = 72 ∧ i = 0
        · rw [if_pos g, g.1, g.2, n0]
        · rw [if_neg g]
      rw [ew] at z2
      refine ⟨0, _, _, _, _, _, _, z1, z2, pm_I_l (pm_CA_Ab hB) h (fun k i g => ?_) (pm_dr0 hL hx hj hn)⟩
      have g1 : k ≠ 1 := fun e => by rw [e] at g; exact absurd g (by decide)
      rw [pm_tk_t g, pm_up_ne g1]
    · exact absurd (by rw [m1]; exact a6) ht
theorem pm_de1 {B : pm_Av} (hB : pm_CB B) {sc : pm_Sc} {n n' j : Nat} {x : Nat → Nat → Int32} {w : Nat → Nat → Bool} {f : Nat → Nat → Nat} (h : pm_I (pm_R3 (pm_Ab B)) n x w f) (hx : x 15 1 = Int32.ofNat (n' + 1)) (hy : x 74 1 = Int32.ofNat (n' + 1)) (hj : j ≤ n') (hn : n' < 12) (F : pm_Fr x w (f 1 j) (72 + 6 * j)) : ∃ (v : Int32) (x1 : Nat → Nat → Int32) (w1 : Nat → Nat → Bool) (f1 : Nat → Nat → Nat) (x2 : Nat → Nat → Int32) (w2 : Nat → Nat → Bool) (f2 : Nat → Nat → Nat), pm_call pm_Tf sc 7 56 [pm_r 0, .inl 1, .inl (Int32.ofNat j)] (pm_u x w f) = some (some (.inl v), pm_u x1 w1 f1) ∧ pm_call pm_Tf sc 7 103 [pm_r 67, .inl 1, .inl (Int32.ofNat j)] (pm_u x1 w1 f1) = some (some (.inl v), pm_u x2 w2 f2) ∧ pm_I (pm_R3 (pm_Ab B)) (n + 1) x2 w2 f2 := by
  have hL := h.2.2.2
  have hN := h.2.2.1.2.2
  obtain ⟨a0, a1, a2, a3, a4, a5, a6⟩ := F
  have z1 := zdel1 (sc := sc) 4 x w f n' j hx hj hn hL.1
  by_cases ht : x 50 0 < x (f 1 j) 0
  · have ec : ck1 (f 1 j) x w = (true, pm_cx x 50 (f 1 j), pm_cw w 50 (f 1 j)) := if_pos ht
    rw [ec] at z1
    dsimp only at z1
    have e75 : ∀ i, pm_up (pm_cx x 50 (f 1 j)) 15 1 (Int32.ofNat n') 75 i = x 75 i := fun i => by rw [pm_up_ne (by decide), pm_cx_ne (by decide)]
    have e73 : ∀ i, pm_up (pm_cx x 50 (f 1 j)) 15 1 (Int32.ofNat n') 73 i = x 73 i := fun i => by rw [pm_up_ne (by decide), pm_cx_ne (by decide)]
    have e74 : ∀ i, pm_up (pm_cx x 50 (f 1 j)) 15 1 (Int32.ofNat n') 74 i = x 74 i := fun i => by rw [pm_up_ne (by decide), pm_cx_ne (by decide)]
    have ew : ∀ i, pm_cw w 50 (f 1 j) 72 i = w 72 i := fun i => by rw [pm_cw_ne (by decide)]
    have em : mk1 j (pm_up (pm_cx x 50 (f 1 j)) 15 1 (Int32.ofNat n')) (pm_cw w 50 (f 1 j)) = (true, pm_s6 (pm_up (pm_cx x 50 (f 1 j)) 15 1 (Int32.ofNat n')) 6 (72 + 6 * j), pm_up (pm_cw w 50 (f 1 j)) 72 1 true) := by
      unfold mk1
      by_cases hw : pm_cw w 50 (f 1 j) 72 1 = true
      · rw [if_pos hw, if_neg ?_]
        · rfl
        · rw [e75, e73]
          rw [ew] at hw
          rcases hN with ⟨n0, m1, -⟩ | ⟨n0, m1, -⟩
          · rw [← m1, ← show x (f 1 j) 0 = x 75 (72 + 6 * j) from a0]
            exact Int32.not_le.mpr ht
          · rw [n0] at hw
            cases hw
      · rw [if_neg hw]
        rfl
    have z2 := zmde1 (sc := sc) 5 (pm_up (pm_cx x 50 (f 1 j)) 15 1 (Int32.ofNat n')) (pm_cw w 50 (f 1 j)) (pm_rmv f 1 j n') n' j ((e74 1).trans hy) hj hn
    rw [em] at z2
    dsimp only at z2
    have c := pm_cx_at (x := x) (q := 50) (q2 := f 1 j)
    have cw := pm_cw_at (w := w) (q := 50) (q2 := f 1 j)
    have yQ : ∀ r, pm_up (pm_tk (pm_s6 (pm_up (pm_cx x 50 (f 1 j)) 15 1 (Int32.ofNat n')) 6 (72 + 6 * j)) (72 + 6 * j) (72 + 6 * n')) 74 1 (Int32.ofNat n') 50 r = pm_cx x 50 (f 1 j) 50 r := fun r => by rw [pm_tk_t rfl, pm_s6_ne (Or.inl (by decide)), pm_up_ne (by decide)]
    have y73 : ∀ r, r < 6 → pm_up (pm_tk (pm_s6 (pm_up (pm_cx x 50 (f 1 j)) 15 1 (Int32.ofNat n')) 6 (72 + 6 * j)) (72 + 6 * j) (72 + 6 * n')) 74 1 (Int32.ofNat n') 73 (6 + r) = x 75 (72 + 6 * j + r) := fun r hr => by rw [pm_tk_t rfl, pm_s6_at r hr, e75]
    have vQ : ∀ r, pm_up (pm_cw w 50 (f 1 j)) 72 1 true 50 r = pm_cw w 50 (f 1 j) 50 r := fun r => by rw [pm_up_ne (by decide)]
    have K1 : pm_N 50 1 6 (pm_up (pm_tk (pm_s6 (pm_up (pm_cx x 50 (f 1 j)) 15 1 (Int32.ofNat n')) 6 (72 + 6 * j)) (72 + 6 * j) (72 + 6 * n')) 74 1 (Int32.ofNat n')) (pm_up (pm_cw w 50 (f 1 j)) 72 1 true) := by
      refine Or.inl ⟨by rw [pm_up_at, if_pos rfl], ?_, ?_, ?_, ?_, ?_, ?_⟩
      · exact (yQ 0).trans (c.1.trans (a0.trans (y73 0 (by decide)).symm))
      · exact (yQ 1).trans (c.2.1.trans (a1.trans (y73 1 (by decide)).symm))
      · exact (yQ 2).trans (c.2.2.1.trans (a2.trans (y73 2 (by decide)).symm))
      · exact (yQ 3).trans (c.2.2.2.trans (a3.trans (y73 3 (by decide)).symm))
      · rw [vQ, cw.1]; exact (y73 4 (by decide)).trans a4
      · rw [vQ, cw.2]; exact (y73 5 (by decide)).trans a5
    have K0 : pm_N 31 0 0 (pm_up (pm_tk (pm_s6 (pm_up (pm_cx x 50 (f 1 j)) 15 1 (Int32.ofNat n')) 6 (72 + 6 * j)) (72 + 6 * j) (72 + 6 * n')) 74 1 (Int32.ofNat n')) (pm_up (pm_cw w 50 (f 1 j)) 72 1 true) := by
      refine pm_N_c h.2.2.1.2.1 (fun r => ?_) (fun r => ?_) ?_ (fun r hr => ?_)
      · rw [pm_tk_t rfl, pm_s6_ne (Or.inl (by decide)), pm_up_ne (by decide), pm_cx_ne (by decide)]
      · rw [pm_up_ne (by decide), pm_cw_ne (by decide)]
      · rw [pm_up_at, if_neg (by decide), ew]
      · rw [pm_tk_t rfl, pm_s6_ne (by omega), e73]
    refine ⟨1, _, _, _, _, _, _, z1, z2, pm_I_n hB h (fun k i g => ?_) (fun k i g => ?_) K0 K1 (pm_Ls_c (pm_dr1 hL hx hj hn) (pm_tk_c fun k i g => ?_) (fun k i g => ?_))⟩
    · obtain ⟨fl, n31, n50, n72, n73, n1, n15⟩ := pm_fn_ne g
      rw [pm_tk_t fl, pm_s6_ne (Or.inl n73), pm_up_ne n15, pm_cx_ne n50]
    · obtain ⟨fl, n31, n50, n72, n73, n1, n15⟩ := pm_fn_ne g
      rw [pm_up_ne n72, pm_cw_ne n50]
    · have k1 : k ≠ 73 := fun e => by rw [e] at g; exact absurd g (by decide)
      have k2 : k ≠ 50 := fun e => by rw [e] at g; exact absurd g (by decide)
      rw [pm_s6_ne (Or.inl k1), pm_up_eq, pm_up_eq, pm_cx_ne k2]
    · have k1 : k ≠ 72 := fun e => by rw [e] at g; exact absurd g (by decide)
      have k2 : k ≠ 50 := fun e => by rw [e] at g; exact absurd g (by decide)
      rw [pm_up_ne k1, pm_cw_ne k2]
  · have ec : ck1 (f 1 j) x w = (false, x, w) := if_neg ht
    rw [ec] at z1
    dsimp only at z1
    rcases hN with ⟨n0, m1, -⟩ | ⟨n0, m1, -⟩
    · have em : mk1 j (pm_up x 15 1 (Int32.ofNat n')) w = (false, pm_up x 15 1 (Int32.ofNat n'), pm_up w 72 1 true) := by
        unfold mk1
        rw [if_pos n0, if_pos ?_]
        rw [pm_up_ne (by decide), pm_up_ne (by decide), ← m1, ← show x (f 1 j) 0 = x 75 (72 + 6 * j) from a0]
        exact Int32.not_lt.mp ht
      have z2 := zmde1 (sc := sc) 5 (pm_up x 15 1 (Int32.ofNat n')) w (pm_rmv f 1 j n') n' j ((congrFun (pm_up_ne (by decide)) _).trans hy) hj hn
      rw [em] at z2
      dsimp only at z2
      have ew : pm_up w 72 1 true = w := by
        funext k i
        rw [pm_up_eq]
        by_cases g : k = 72 ∧ i = 1
        · rw [if_pos g, g.1, g.2, n0]
        · rw [if_neg g]
      rw [ew] at z2
      refine ⟨0, _, _, _, _, _, _, z1, z2, pm_I_l (pm_CA_Ab hB) h (fun k i g => ?_) (pm_dr1 hL hx hj hn)⟩
      have g1 : k ≠ 15 := fun e => by rw [e] at g; exact absurd g (by decide)
      rw [pm_tk_t g, pm_up_ne g1]
    · exact absurd (by rw [m1]; exact a6) ht
theorem pm_g56 {B : pm_Av} (hB : pm_CB B) {sc : pm_Sc} (a b : Int32) : pm_Go (pm_call pm_Tf sc 7) (pm_I (pm_R3 (pm_Ab B))) 56 103 [.inl a, .inl b] := by
  intro n x w f _ h
  have hc := pm_C2_R3 (pm_CA_Ab hB)
  obtain ⟨hf, l0, l1, hfi⟩ := h.2.2.2
  by_cases ha : q69 a x w f = true
  · rcases pm_q69_c ha with rfl | rfl
    · obtain ⟨c, h12, hx, hy, hF⟩ := l0
      rcases pm_uw0 (w := w) (f := f) (e := b) h12 hx with ⟨j, hj, rfl⟩ | ⟨h1, h2⟩
      · obtain ⟨n', rfl⟩ : ∃ n', c = n' + 1 := ⟨c - 1, by omega⟩
        exact pm_de0 hB h hx hy (by omega) (by omega) (hF j (by omega))
      · exact pm_go_of (z560u (sc := sc) 4 b x w f h1) rfl (z1030u (sc := sc) 5 b x w f (h2 x w f hy)) rfl (pm_I_mo hc h)
    · obtain ⟨c, h12, hx, hy, hF⟩ := l1
      rcases pm_uw1 (w := w) (f := f) (e := b) h12 hx with ⟨j, hj, rfl⟩ | ⟨h1, h2⟩
      · obtain ⟨n', rfl⟩ : ∃ n', c = n' + 1 := ⟨c - 1, by omega⟩
        exact pm_de1 hB h hx hy (by omega) (by omega) (hF j (by omega))
      · exact pm_go_of (z561u (sc := sc) 4 b x w f h1) rfl (z1031u (sc := sc) 5 b x w f (h2 x w f hy)) rfl (pm_I_mo hc h)
  · exact pm_go_of (z56s (sc := sc) 4 a b x w f ha Bool.false_ne_true) rfl (z103s (sc := sc) 5 a b x w f (pm_q91_s ha) rfl) rfl (pm_I_mo hc h)

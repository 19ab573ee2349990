/-! begin, and the relation at the start. -/
theorem pm_R1_X0 : pm_R1 pm_X0 := by
  have h : ∀ q ∈ pm_px, pm_X0 q.1.1 q.1.2 = pm_X0 q.2.1.1 q.2.1.2 ∧ q.2.2.1 ≤ pm_X0 q.1.1 q.1.2 ∧ pm_X0 q.1.1 q.1.2 ≤ q.2.2.2 := by decide +kernel
  exact h
theorem pm_Bs_X0 : pm_Bs 0 pm_X0 := ⟨⟨0, 0, 0, 0, by omega, by omega, by omega, by omega, by omega, rfl, rfl, rfl, rfl, rfl, rfl, rfl, rfl, Or.inl rfl⟩, ⟨0, 0, 0, 0, by omega, by omega, by omega, by omega, by omega, rfl, rfl, rfl, rfl, rfl, rfl, rfl, rfl, Or.inl rfl⟩, Or.inr ⟨rfl, rfl⟩, ⟨0, by omega, by omega, rfl, rfl⟩⟩
/-- whatever holds the first values in all slots that are seen grants the relation -/
theorem pm_KK_0 {x : Nat → Nat → Int32} {w : Nat → Nat → Bool} {f : Nat → Nat → Nat} (hf : pm_ff f) (hfi : pm_fi f) (hx : ∀ q ∈ pm_px, x q.1.1 q.1.2 = pm_X0 q.1.1 q.1.2 ∧ x q.2.1.1 q.2.1.2 = pm_X0 q.2.1.1 q.2.1.2) (hw : ∀ q ∈ pm_pw, w q.1.1 q.1.2 = false ∧ w q.2.1 q.2.2 = false) (hb : ∀ p ∈ pm_bs, x p.1 p.2 = pm_X0 p.1 p.2) (hn : ∀ p ∈ [(31, 0), (31, 1), (31, 2), (31, 3), (50, 0), (50, 1), (50, 2), (50, 3), (1, 1), (15, 1), (74, 0), (74, 1)], x (Prod.fst p) (Prod.snd p) = 0) (hm : ∀ p ∈ [(31, 4), (31, 5), (50, 4), (50, 5), (72, 0), (72, 1)], w (Prod.fst p) (Prod.snd p) = false) : pm_KK 0 x w f := by
  refine ⟨pm_R1_t pm_R1_X0 hx, fun q hq => (hw q hq).1.trans (hw q hq).2.symm, pm_Bs_t (Nat.le_refl 0) pm_Bs_X0 hb, Or.inr ⟨hm (72, 0) (by decide), hn (31, 0) (by decide), hn (31, 1) (by decide), hn (31, 2) (by decide), hn (31, 3) (by decide), hm (31, 4) (by decide), hm (31, 5) (by decide)⟩, Or.inr ⟨hm (72, 1) (by decide), hn (50, 0) (by decide), hn (50, 1) (by decide), hn (50, 2) (by decide), hn (50, 3) (by decide), hm (50, 4) (by decide), hm (50, 5) (by decide)⟩, hf, ⟨0, by omega, hn (1, 1) (by decide), hn (74, 0) (by decide), fun j hj => absurd hj (by omega)⟩, ⟨0, by omega, hn (15, 1) (by decide), hn (74, 1) (by decide), fun j hj => absurd hj (by omega)⟩, hfi⟩
theorem pm_ff0 : pm_ff pm_f0 := by
  have h : ∀ j, j < 12 → pm_f0 0 j ∈ pm_F0 := by decide
  have h' : ∀ j, j < 12 → pm_f0 1 j ∈ pm_F1 := by decide
  exact fun j hj => ⟨h j hj, h' j hj⟩
theorem pm_fi0 : pm_fi pm_f0 := by
  intro s i j _ _ _ e
  unfold pm_f0 at e
  omega
theorem pm_I_0 : pm_I (pm_R3 (pm_Ab pm_B)) 0 pm_X0 pm_W0 pm_f0 := pm_KK_I (N := 0) (by omega) (pm_KK_0 pm_ff0 pm_fi0 (fun _ _ => ⟨rfl, rfl⟩) (fun _ _ => ⟨rfl, rfl⟩) (fun _ _ => rfl) (by decide) (by decide))
set_option maxRecDepth 20000 in
set_option maxHeartbeats 4000000 in
theorem pm_g47 {sc : pm_Sc} : pm_Gn (pm_call pm_Tf sc 7) (pm_I (pm_R3 (pm_Ab pm_B))) 47 74 [] := by
  intro n x w f hn h
  refine ⟨_, _, f, _, _, f, z47 (sc := sc) 3 x w f, z74 (sc := sc) 7 (q47 x w f).1 (q47 x w f).2 f, ?_⟩
  refine pm_KK_I (N := 0) (by omega) (pm_KK_0 h.2.2.2.1 h.2.2.2.2.2.2 ?_ ?_ ?_ ?_ ?_)
  · intro q hq
    rcases List.mem_append.mp hq with g | g
    · simp only [List.mem_cons, List.not_mem_nil, or_false] at g
      rcases g with rfl | rfl | rfl | rfl <;> exact ⟨rfl, rfl⟩
    · obtain ⟨p, hp, g⟩ := List.mem_flatMap.mp g
      simp only [pm_lf, List.mem_cons, List.not_mem_nil, or_false] at hp
      rcases hp with rfl | rfl | rfl | rfl | rfl | rfl | rfl | rfl | rfl | rfl | rfl | rfl | rfl | rfl | rfl | rfl <;> (simp only [List.mem_cons, List.not_mem_nil, or_false] at g; rcases g with rfl | rfl | rfl | rfl | rfl | rfl <;> exact ⟨rfl, rfl⟩)
  · intro q hq
    rcases List.mem_append.mp hq with g | g
    · simp only [List.mem_cons, List.not_mem_nil, or_false] at g
      subst g
      exact ⟨rfl, rfl⟩
    · obtain ⟨p, hp, g⟩ := List.mem_flatMap.mp g
      simp only [pm_lf, List.mem_cons, List.not_mem_nil, or_false] at hp
      rcases hp with rfl | rfl | rfl | rfl | rfl | rfl | rfl | rfl | rfl | rfl | rfl | rfl | rfl | rfl | rfl | rfl <;> (simp only [List.mem_cons, List.not_mem_nil, or_false] at g; rcases g with rfl | rfl | rfl | rfl <;> exact ⟨rfl, rfl⟩)
  · intro p hp
    simp only [pm_bs, List.mem_cons, List.not_mem_nil, or_false] at hp
    rcases hp with rfl | rfl | rfl | rfl | rfl | rfl | rfl | rfl | rfl | rfl | rfl | rfl | rfl | rfl | rfl | rfl | rfl | rfl | rfl | rfl | rfl | rfl <;> rfl
  · intro p hp
    simp only [List.mem_cons, List.not_mem_nil, or_false] at hp
    rcases hp with rfl | rfl | rfl | rfl | rfl | rfl | rfl | rfl | rfl | rfl | rfl | rfl <;> rfl
  · intro p hp
    simp only [List.mem_cons, List.not_mem_nil, or_false] at hp
    rcases hp with rfl | rfl | rfl | rfl | rfl | rfl <;> rfl
/-- all seventeen pairs of calls -/
theorem pm_ops (sc : pm_Sc) : pm_Ops (pm_call pm_Tf sc 7) (pm_I (pm_R3 (pm_Ab pm_B))) := by
  have hA := pm_CA_Ab pm_CB_B
  have hc := pm_C2_B
  exact ⟨fun n x w f h => pm_I_mo hc h, pm_g47, fun a e => pm_g48 a e, fun a e => pm_g49 hc a e, fun a => pm_g50 hc a, fun b => pm_g51 hc b, fun a l b => pm_g52 hc a l b, fun a l b => pm_g53 hc a l b, fun a l b => pm_g54 hc a l b, fun a l m b => pm_g55 hc a l m b, fun a b => pm_g56 pm_CB_B a b, fun a b => pm_g57 hA a b, fun a b => pm_g58 hA a b, fun a b e => pm_g59 hc pm_Hl_R3 a b e, fun a l b => pm_g60 hc a l b, fun a b => pm_g61 hc pm_Hs_B a b, pm_g62 hc pm_Hs_B, pm_g63 hc⟩

/-! Arrays, and what is made. -/
theorem pm_ac_cell (cA : ClassId) (len t z : Nat) (x : Nat → Int32) (w : Nat → Bool) (r : Nat → Option Nat) : vp_cell cA (len, pm_ac t z x w r) = arrV cA len (fun j => pm_sv t z (x j) (w j) (r j)) := by
  rcases t with _ | _ | t <;> rfl
theorem pm_arrset {G : pm_G} {u u' : pm_S} {H H1 : Heap} {k t len j : Nat} {v : Value} (hH : pm_H G u H) (hk : k < u.1) (hkd : pm_kd k = some (.inr (t, len))) (e : H1[G.2.2.1 + k]? = some ((vp_cell (G.2.1 t) (len, pm_ac t G.2.2.1 (u.2.1 k) (u.2.2.1 k) (u.2.2.2 k))).setSlot j v)) (z : H1.size = H.size) (oq : ∀ q, q ≠ G.2.2.1 + k → H1[q]? = H[q]?)
    (hn : u'.1 = u.1) (hval : pm_sv t G.2.2.1 (u'.2.1 k j) (u'.2.2.1 k j) (u'.2.2.2 k j) = v) (hxa : ∀ a b, ¬ (a = k ∧ b = j) → u'.2.1 a b = u.2.1 a b) (hwa : ∀ a b, ¬ (a = k ∧ b = j) → u'.2.2.1 a b = u.2.2.1 a b) (hra : ∀ a b, ¬ (a = k ∧ b = j) → u'.2.2.2 a b = u.2.2.2 a b) : pm_H G u' H1 := by
  have ha := pm_ws_get (G := G) hk
  rw [pm_kx_of hkd] at ha
  have hP := hH.2.set (e := pm_cell G (.inr (t, len)) (u'.2.1 k) (u'.2.2.1 k) (u'.2.2.2 k)) pm_ws_D ha ?_ oq
  · rw [pm_ws_set (u' := u') hn (by rw [pm_kx_of hkd]) (fun a ha => funext fun b => hxa a b (fun z => ha z.1)) (fun a ha => funext fun b => hwa a b (fun z => ha z.1)) (fun a ha => funext fun b => hra a b (fun z => ha z.1))] at hP
    exact ⟨by rw [z, hn]; exact hH.1, hP⟩
  · show H1[G.2.2.1 + k]? = some (vp_cell (G.2.1 t) (len, pm_ac t G.2.2.1 (u'.2.1 k) (u'.2.2.1 k) (u'.2.2.2 k)))
    rw [e, pm_ac_cell, pm_ac_cell, arrV_store]
    congr 2
    funext b
    by_cases hb : b = j
    · subst hb
      simp only [updV, if_true]
      exact hval.symm
    · simp only [updV, if_neg hb]
      rw [hxa k b (fun z => hb z.2), hwa k b (fun z => hb z.2), hra k b (fun z => hb z.2)]
theorem pm_ald_spec {sc : pm_Sc} {t0 : Nat} {st : List pm_V} {u : pm_S} {kg : pm_V → List pm_V → Prop} (h : pm_ald sc t0 st u kg False) : ∃ i : Int32, (∃ k st' t len, st = .inl i :: .inr (.inr (.inl (some k))) :: st' ∧ pm_arr u.1 k = some (t, len) ∧ (t = t0 ∨ (t0 = 2 ∧ t = 3)) ∧ pm_ib i len = true ∧ kg (pm_get t0 k i.toNatClampNeg u) st') ∨ (∃ q st', st = .inl i :: .inr (.inr (.inr q)) :: st' ∧ t0 = 0 ∧ pm_ib i sc.1 = true ∧ kg (.inl (sc.2 i.toNatClampNeg)) st') := by
  rcases st with _ | ⟨i | v, _ | ⟨x | b | (_ | k) | q, st⟩⟩ <;> first | exact h.elim | skip
  · refine ⟨i, Or.inl ?_⟩
    change (match pm_arr u.1 k with | some (t, len) => _ | none => False) at h
    cases ha : pm_arr u.1 k with
    | none => rw [ha] at h; exact h.elim
    | some tl =>
      obtain ⟨t, len⟩ := tl
      rw [ha] at h
      dsimp only at h
      cases hb : ((Nat.beq t t0 || (Nat.beq t0 2 && Nat.beq t 3)) && pm_ib i len) with
      | false => rw [hb] at h; exact h.elim
      | true =>
        rw [hb] at h
        simp only [Bool.and_eq_true, Bool.or_eq_true] at hb
        refine ⟨k, st, t, len, rfl, ha, ?_, hb.2, h⟩
        rcases hb.1 with h1 | h1
        · exact Or.inl (pm_beq h1)
        · exact Or.inr ⟨pm_beq h1.1, pm_beq h1.2⟩
  · refine ⟨i, Or.inr ?_⟩
    change (bif Nat.beq t0 0 && pm_ib i sc.1 then _ else False) at h
    cases hb : (Nat.beq t0 0 && pm_ib i sc.1) with
    | false => rw [hb] at h; exact h.elim
    | true =>
      rw [hb] at h
      simp only [Bool.and_eq_true] at hb
      exact ⟨q, st, rfl, pm_beq hb.1, hb.2, h⟩
theorem pm_ast_spec {t0 : Nat} {st : List pm_V} {u : pm_S} {kg : List pm_V → pm_S → Prop} (h : pm_ast t0 st u kg False) : ∃ v i k st' len, st = v :: .inl i :: .inr (.inr (.inl (some k))) :: st' ∧ pm_arr u.1 k = some (t0, len) ∧ pm_ib i len = true ∧ pm_put t0 k i.toNatClampNeg v u (fun u => kg st' u) False := by
  rcases st with _ | ⟨v, _ | ⟨i | i, _ | ⟨x | b | (_ | k) | z, st⟩⟩⟩ <;> first | exact h.elim | skip
  change (match pm_arr u.1 k with | some (t, len) => _ | none => False) at h
  cases ha : pm_arr u.1 k with
  | none => rw [ha] at h; exact h.elim
  | some tl =>
    obtain ⟨t, len⟩ := tl
    rw [ha] at h
    dsimp only at h
    cases hb : (Nat.beq t t0 && pm_ib i len) with
    | false => rw [hb] at h; exact h.elim
    | true =>
      rw [hb] at h
      simp only [Bool.and_eq_true] at hb
      have ht := pm_beq hb.1
      subst ht
      exact ⟨v, i, k, st, len, rfl, ha, hb.2, h⟩
theorem pm_asta_spec {st : List pm_V} {u : pm_S} {kg : List pm_V → pm_S → Prop} (h : pm_asta st u kg False) : ∃ q i k st' t len ci, st = .inr (.inr (.inl (some q))) :: .inl i :: .inr (.inr (.inl (some k))) :: st' ∧ pm_arr u.1 k = some (t, len) ∧ pm_cls u.1 q = some ci ∧ ((t = 2 ∧ ci = 1) ∨ (t = 3 ∧ ci = 2)) ∧ pm_ib i len = true ∧ kg st' (u.1, u.2.1, u.2.2.1, pm_up u.2.2.2 k i.toNatClampNeg (some q)) := by
  rcases st with _ | ⟨y | d | (_ | q) | w, _ | ⟨i | i, _ | ⟨x | b | (_ | k) | z, st⟩⟩⟩ <;> first | exact h.elim | skip
  change (match pm_arr u.1 k, pm_cls u.1 q with | some (t, len), some ci => _ | _, _ => False) at h
  cases ha : pm_arr u.1 k with
  | none => rw [ha] at h; exact h.elim
  | some tl =>
    obtain ⟨t, len⟩ := tl
    rw [ha] at h
    cases hc : pm_cls u.1 q with
    | none => rw [hc] at h; exact h.elim
    | some ci =>
      rw [hc] at h
      dsimp only at h
      cases hb : (((Nat.beq t 2 && Nat.beq ci 1) || (Nat.beq t 3 && Nat.beq ci 2)) && pm_ib i len) with
      | false => rw [hb] at h; exact h.elim
      | true =>
        rw [hb] at h
        simp only [Bool.and_eq_true, Bool.or_eq_true] at hb
        refine ⟨q, i, k, st, t, len, ci, rfl, ha, hc, ?_, hb.2, h⟩
        rcases hb.1 with h1 | h1
        · exact Or.inl ⟨pm_beq h1.1, pm_beq h1.2⟩
        · exact Or.inr ⟨pm_beq h1.1, pm_beq h1.2⟩
section PMA
variable {p : Program} {l : Launch} {e : Env} {R : Room} {s : State} {m : MethodId} {args : Array Value} {below : List Frame} {meth : Method} {c : Code} {Q : State → Prop}
variable {G : pm_G} {sc : pm_Sc} {M : pm_Mt} {d n0 nf : Nat} {MT : List pm_Mt} {pc : Nat} {ax : List Nat} {lv : pm_Lv} {st : List pm_V} {u : pm_S}
variable {H : Heap} {locs : List Loc} {cells slots : Nat} {ls : Array Slot} {rest : List Value}
theorem pm_w_cell {k : Nat} {dd : pm_Kd} (hk : k < u.1) (hkd : pm_kd k = some dd) : (pm_ws G u)[k]? = some (G.2.2.1 + k, pm_cell G dd (u.2.1 k) (u.2.2.1 k) (u.2.2.2 k)) := by
  have ha := pm_ws_get (G := G) hk
  rw [pm_kx_of hkd] at ha
  exact ha
theorem pm_s_iaload (E : pm_E G sc M d p R s m args meth c) (hd : decode M.2.1 pc = .ok (.iaload, 1)) (h : pm_ald sc 0 st u (fun v st => pm_kk p l e R s m args below meth c Q G M.2.2.1 n0 nf (pc + 1) lv (v :: st) u) False) : pm_PW p l e R s m args below meth c Q G M.2.2.1 n0 pc lv st u := by
  obtain ⟨hx, hb, -, hown, hga, hK, hX, -⟩ := E
  obtain ⟨i, h | h⟩ := pm_ald_spec h
  · obtain ⟨k, st', t, len, rfl, ha, ht, hi, hk⟩ := h
    have ht0 : t = 0 := by rcases ht with h | h; exact h; exact absurd h.1 (by decide)
    subst ht0
    obtain ⟨hkn, hkd⟩ := pm_arr_spec ha
    exact fun H locs ls hl hH hS hn => va_iald hx hb hK.1 hH.2 k 0 (pm_w_cell hkn hkd) rfl (pm_ib_in hi) hd (hk.2 H locs ls hl hH hS hn)
  · obtain ⟨q, st', rfl, -, hi, hk⟩ := h
    exact fun H locs ls hl hH hS hn => va_sld (A := pm_A G) hx hb hX.1 (Array.getElem?_eq_some_iff.mp hX.1.choose_spec.1).1 (fun q => by have q' : G.2.2.1 ≤ G.2.2.2 := q; have := hX.2; omega) hS (pm_ib_in hi) hd (hk.2 H locs ls hl hH hS hn)
theorem pm_s_baload (E : pm_E G sc M d p R s m args meth c) (hd : decode M.2.1 pc = .ok (.baload, 1)) (h : pm_ald sc 1 st u (fun v st => pm_kk p l e R s m args below meth c Q G M.2.2.1 n0 nf (pc + 1) lv (v :: st) u) False) : pm_PW p l e R s m args below meth c Q G M.2.2.1 n0 pc lv st u := by
  obtain ⟨hx, hb, -, hown, hga, hK, hX, -⟩ := E
  obtain ⟨i, h | h⟩ := pm_ald_spec h
  · obtain ⟨k, st', t, len, rfl, ha, ht, hi, hk⟩ := h
    have ht0 : t = 1 := by rcases ht with h | h; exact h; exact absurd h.1 (by decide)
    subst ht0
    obtain ⟨hkn, hkd⟩ := pm_arr_spec ha
    exact fun H locs ls hl hH hS hn => va_zald hx hb hK.1 hH.2 k 1 (pm_w_cell hkn hkd) rfl (pm_ib_in hi) hd (hk.2 H locs ls hl hH hS hn)
  · obtain ⟨q, st', rfl, h0, -⟩ := h
    exact absurd h0 (by decide)
theorem pm_s_aaload (E : pm_E G sc M d p R s m args meth c) (hd : decode M.2.1 pc = .ok (.aaload, 1)) (h : pm_ald sc 2 st u (fun v st => pm_kk p l e R s m args below meth c Q G M.2.2.1 n0 nf (pc + 1) lv (v :: st) u) False) : pm_PW p l e R s m args below meth c Q G M.2.2.1 n0 pc lv st u := by
  obtain ⟨hx, hb, -, hown, hga, hK, hX, -⟩ := E
  obtain ⟨i, h | h⟩ := pm_ald_spec h
  · obtain ⟨k, st', t, len, rfl, ha, ht, hi, hk⟩ := h
    obtain ⟨hkn, hkd⟩ := pm_arr_spec ha
    rcases ht with rfl | ⟨-, rfl⟩
    · exact fun H locs ls hl hH hS hn => va_aldq hx hb hK.1 hH.2 k 2 (pm_w_cell hkn hkd) rfl (pm_ib_in hi) hd (hk.2 H locs ls hl hH hS hn)
    · exact fun H locs ls hl hH hS hn => va_aldq hx hb hK.1 hH.2 k 3 (pm_w_cell hkn hkd) rfl (pm_ib_in hi) hd (hk.2 H locs ls hl hH hS hn)
  · obtain ⟨q, st', rfl, h0, -⟩ := h
    exact absurd h0 (by decide)
theorem pm_s_iastore (E : pm_E G sc M d p R s m args meth c) (hd : decode M.2.1 pc = .ok (.iastore, 1)) (h : pm_ast 0 st u (fun st u => pm_kk p l e R s m args below meth c Q G M.2.2.1 n0 nf (pc + 1) lv st u) False) : pm_PW p l e R s m args below meth c Q G M.2.2.1 n0 pc lv st u := by
  obtain ⟨hx, hb, -, hown, hga, hK, hX, -⟩ := E
  obtain ⟨v, i, k, st', len, rfl, ha, hi, hp⟩ := pm_ast_spec h
  obtain ⟨hkn, hkd⟩ := pm_arr_spec ha
  obtain ⟨u', w, k1, k2, k3, k4, k5, k6, k7, -, k9⟩ := pm_put_spec hp G.2.2.1 G.2.2.2
  intro H locs ls hl hH hS hn
  rcases k9 with ⟨-, x, hw, -⟩ | ⟨h0, -⟩ | ⟨h0, -⟩
  · rw [List.map_cons, k2, hw]
    refine W.iast hx hb (hH.2 k _ (pm_w_cell hkn hkd)) ((hK.1.2 0 _ rfl).1 len (fun j => .int (u.2.1 k j))) (fun q => by cases q) (by show ¬ (i < 0 ∨ (arrV _ _ _).slots.size ≤ _); rw [arrV_size]; exact pm_ib_in hi) rfl rfl hd fun H1 e z oq => ?_
    have h2 := k1.2 H1 _ ls hl (pm_arrset hH hkn hkd e z oq k3 (k4.trans hw) k5 k6 k7) (hS.put (k := i.toNatClampNeg) z oq (pm_ws_D.2 k _ (pm_w_cell hkn hkd))) (by rw [k3]; exact hn)
    rw [k3] at h2
    exact h2
  · exact absurd h0 (by decide)
  · exact absurd h0 (by decide)
theorem pm_s_bastore (E : pm_E G sc M d p R s m args meth c) (hd : decode M.2.1 pc = .ok (.bastore, 1)) (h : pm_ast 1 st u (fun st u => pm_kk p l e R s m args below meth c Q G M.2.2.1 n0 nf (pc + 1) lv st u) False) : pm_PW p l e R s m args below meth c Q G M.2.2.1 n0 pc lv st u := by
  obtain ⟨hx, hb, -, hown, hga, hK, hX, -⟩ := E
  obtain ⟨v, i, k, st', len, rfl, ha, hi, hp⟩ := pm_ast_spec h
  obtain ⟨hkn, hkd⟩ := pm_arr_spec ha
  obtain ⟨u', w, k1, k2, k3, k4, k5, k6, k7, -, k9⟩ := pm_put_spec hp G.2.2.1 G.2.2.2
  intro H locs ls hl hH hS hn
  rcases k9 with ⟨h0, -⟩ | ⟨-, x, hw, -⟩ | ⟨h0, -⟩
  · exact absurd h0 (by decide)
  · rw [List.map_cons, k2, hw]
    refine W.zast hx hb (hH.2 k _ (pm_w_cell hkn hkd)) ((hK.1.2 1 _ rfl).1 len (fun j => .int (bif u.2.2.1 k j then 1 else 0))) (fun q => by cases q) (by show ¬ (i < 0 ∨ (arrV _ _ _).slots.size ≤ _); rw [arrV_size]; exact pm_ib_in hi) rfl rfl hd fun H1 e z oq => ?_
    have e2 : narrow .boolean (.int (bif x then 1 else 0)) = w := by rw [hw]; cases x <;> decide
    rw [e2] at e
    have h2 := k1.2 H1 _ ls hl (pm_arrset hH hkn hkd e z oq k3 k4 k5 k6 k7) (hS.put (k := i.toNatClampNeg) z oq (pm_ws_D.2 k _ (pm_w_cell hkn hkd))) (by rw [k3]; exact hn)
    rw [k3] at h2
    exact h2
  · exact absurd h0 (by decide)
theorem pm_s_aastore (E : pm_E G sc M d p R s m args meth c) (hd : decode M.2.1 pc = .ok (.aastore, 1)) (h : pm_asta st u (fun st u => pm_kk p l e R s m args below meth c Q G M.2.2.1 n0 nf (pc + 1) lv st u) False) : pm_PW p l e R s m args below meth c Q G M.2.2.1 n0 pc lv st u := by
  obtain ⟨hx, hb, -, hown, hga, hK, hX, -⟩ := E
  obtain ⟨q, i, k, st', t, len, ci, rfl, ha, hc, ht, hi, hp⟩ := pm_asta_spec h
  obtain ⟨hkn, hkd⟩ := pm_arr_spec ha
  obtain ⟨hqn, hqd⟩ := pm_cls_spec hc
  intro H locs ls hl hH hS hn
  have hin := pm_ib_in hi
  have hlt : i.toNatClampNeg < len := Nat.not_le.mp fun q => hin (Or.inr q)
  have h0 : ¬ i < 0 := fun q => hin (Or.inl q)
  have hup : ∀ a b, ¬ (a = k ∧ b = i.toNatClampNeg) → pm_up u.2.2.2 k i.toNatClampNeg (some q) a b = u.2.2.2 a b := fun a b hn => by rw [pm_up_eq, if_neg hn]
  have key : ∀ (C : String) (r : vw_C), pm_cl[ci]? = some r → r.1 = C → (pm_tys G.2.1)[t]? = some (G.2.1 t, .object C) → 2 ≤ t → W p l e R s m args below meth c H locs (u.1 - n0) (pm_sl u.1 - pm_sl n0) Q (F0 m pc ls (.ref (G.2.2.1 + q) :: .int i :: .ref (G.2.2.1 + k) :: st'.map (pm_vl G.2.2.1 G.2.2.2))) := by
    intro C r hr hC hty h2t
    obtain ⟨r', hr', cellV, g1, g2, g3, -⟩ := hH.2 q _ (pm_w_cell hqn hqd)
    have hcls := (hK.1.1 ci r hr).2
    rw [hC] at hcls
    obtain ⟨kA, comp, k1, k2, k3, -⟩ := (hK.1.2 t _ hty).2
    have hcomp : comp = G.1.1 ci := Option.some.inj (k3.symm.trans hcls.1)
    subst hcomp
    obtain ⟨kC, hkC, -⟩ := hcls.2
    refine W.aast hx hb (hH.2 k _ (pm_w_cell hkn hkd)) (fun q h => ?_) (fun h => ?_) ?_ k2 rfl hkC ⟨h0, ?_⟩ g1 (fun q h => by rw [g3] at h; cases h) (by rw [g2]; exact hkC) (by rw [g2]; exact va_assign hcls) rfl rfl hd fun H1 e z oq => ?_
    · rw [pm_ac_cell] at h; cases h
    · rw [pm_ac_cell] at h; cases h
    · rw [pm_ac_cell]; exact k1
    · rw [pm_ac_cell, arrV_size]; exact hlt
    · have h2 := hp.2 H1 _ ls hl (pm_arrset (u' := (u.1, u.2.1, u.2.2.1, pm_up u.2.2.2 k i.toNatClampNeg (some q))) hH hkn hkd e z oq rfl (by
        rcases t with _ | _ | t
        · omega
        · omega
        · show va_rf (pm_rz G.2.2.1 (pm_up u.2.2.2 k i.toNatClampNeg (some q) k i.toNatClampNeg)) = _
          rw [pm_up_at, if_pos rfl]; rfl) (fun _ _ _ => rfl) (fun _ _ _ => rfl) hup) (hS.put (k := i.toNatClampNeg) z oq (pm_ws_D.2 k _ (pm_w_cell hkn hkd))) hn
      exact h2
  rcases ht with ⟨rfl, rfl⟩ | ⟨rfl, rfl⟩
  · exact key "PlatformDoors$Frame" _ rfl rfl rfl (by decide)
  · exact key "PlatformDoors$Leaf" _ rfl rfl rfl (by decide)
theorem pm_s_alen (E : pm_E G sc M d p R s m args meth c) (hd : decode M.2.1 pc = .ok (.arraylength, 1)) {q : Unit} (h : pm_kk p l e R s m args below meth c Q G M.2.2.1 n0 nf (pc + 1) lv (.inl (Int32.ofNat sc.1) :: st) u) : pm_PW p l e R s m args below meth c Q G M.2.2.1 n0 pc lv (.inr (.inr (.inr q)) :: st) u := by
  obtain ⟨hx, hb, -, hown, hga, hK, hX, -⟩ := E
  exact fun H locs ls hl hH hS hn => va_slen (A := pm_A G) hx hb hX.1 (Array.getElem?_eq_some_iff.mp hX.1.choose_spec.1).1 (fun q => by have q' : G.2.2.1 ≤ G.2.2.2 := q; have := hX.2; omega) hS hd (h.2 H locs ls hl hH hS hn)
/-- the memory with one place more -/
theorem pm_grow {H1 : Heap} (hH : pm_H G u H) (z1 : H1.size = H.size + 1) (o1 : ∀ q, q < H.size → H1[q]? = H[q]?) (hat : va_at G.1 pm_cl (G.2.2.1 + u.1, pm_cell G (pm_kx u.1) (fun _ => 0) (fun _ => false) (fun _ => none)) H1) : pm_H G (pm_made u) H1 := by
  refine ⟨by rw [z1, hH.1]; rfl, ?_⟩
  have hk : ∀ (k : Nat) (x : Nat × va_E), (pm_ws G u)[k]? = some x → H1[x.1]? = H[x.1]? := fun k x hx => o1 x.1 ((hH.2 k x hx).lt)
  have hP := (hH.2.kept hk).app (w2 := [(G.2.2.1 + u.1, pm_cell G (pm_kx u.1) (fun _ => 0) (fun _ => false) (fun _ => none))]) (fun k x hx => by
    have hz : k < 1 := (List.getElem?_eq_some_iff.mp hx).1
    rw [show k = 0 by omega] at hx
    cases hx
    exact hat)
  rw [pm_ws_push (u' := pm_made u) rfl (by show pm_cell G (pm_kx u.1) (pm_fz u.2.1 u.1 0 u.1) (pm_fz u.2.2.1 u.1 false u.1) (pm_fz u.2.2.2 u.1 none u.1) = _; rw [pm_fz_at, pm_fz_at, pm_fz_at]) (fun a ha => pm_fz_ne ha) (fun a ha => pm_fz_ne ha) (fun a ha => pm_fz_ne ha)] at hP
  exact hP
theorem pm_grow_S {H1 : Heap} (hS : va_S (pm_A G) s.heap H locs) (z1 : H1.size = H.size + 1) (o1 : ∀ q, q < H.size → H1[q]? = H[q]?) : va_S (pm_A G) s.heap H1 locs := ⟨Nat.le_trans hS.1 (by omega), fun x h1 h2 => (o1 x (Nat.lt_of_lt_of_le h1 hS.1)).trans (hS.2.1 x h1 h2), hS.2.2⟩
theorem pm_new_spec {dd : pm_Kd} {kg : List pm_V → pm_S → Prop} (h : pm_new dd st u kg False) : pm_kd u.1 = some dd ∧ kg (.inr (.inr (.inl (some u.1))) :: st) (pm_made u) := by
  unfold pm_new at h
  cases hk : pm_kd u.1 with
  | none => rw [hk] at h; exact h.elim
  | some d0 =>
    rw [hk] at h
    rcases d0 with a | ⟨a, x⟩ <;> rcases dd with b | ⟨b, y⟩
    · dsimp only at h
      cases hb : Nat.beq a b with
      | false => rw [hb] at h; exact h.elim
      | true => rw [hb] at h; have := pm_beq hb; subst this; exact ⟨rfl, h⟩
    · exact h.elim
    · exact h.elim
    · dsimp only at h
      cases hb : (Nat.beq a b && Nat.beq x y) with
      | false => rw [hb] at h; exact h.elim
      | true =>
        rw [hb] at h
        simp only [Bool.and_eq_true] at hb
        have h1 := pm_beq hb.1
        have h2 := pm_beq hb.2
        subst h1; subst h2
        exact ⟨rfl, h⟩
/-- room for one more -/
theorem pm_room1 {sz : Nat} (hR : nf - n0 ≤ R.cells ∧ pm_sl nf - pm_sl n0 ≤ R.slots) (hn : n0 ≤ u.1) (hnf : u.1 + 1 ≤ nf) (hsz : pm_sz u.1 = sz) : (u.1 - n0) + 1 ≤ R.cells ∧ (pm_sl u.1 - pm_sl n0) + sz ≤ R.slots ∧ (u.1 - n0) + 1 = u.1 + 1 - n0 ∧ (pm_sl u.1 - pm_sl n0) + sz = pm_sl (u.1 + 1) - pm_sl n0 := by
  have h1 : pm_sl (u.1 + 1) = pm_sl u.1 + sz := by rw [← hsz]; rfl
  have h2 := pm_sl_le hn
  have h3 := pm_sl_le hnf
  omega
theorem pm_s_new {i : Nat} {cal : Nat → List pm_V → pm_S → Option pm_Rs} {rk : Nat} {kr : pm_Rs → Prop} (E : pm_E G sc M d p R s m args meth c) (hR : nf - n0 ≤ R.cells ∧ pm_sl nf - pm_sl n0 ≤ R.slots) (hd : decode M.2.1 pc = .ok (.new i, 3)) (ho : pm_oki MT M pc (.new i) ax = true)
    (h : pm_do cal sc rk (.new i) (pc + 3) ax lv st u (pm_kk p l e R s m args below meth c Q G M.2.2.1 n0 nf) kr False) : pm_PW p l e R s m args below meth c Q G M.2.2.1 n0 pc lv st u := by
  obtain ⟨hx, hb, -, hown, hga, hK, hX, -⟩ := E
  rcases ax with _ | ⟨ci, ax⟩
  · exact h.elim
  · obtain ⟨hkd, hk⟩ := pm_new_spec h
    simp only [pm_oki, Bool.and_eq_true] at ho
    obtain ⟨⟨⟨hci, hcl⟩, hinst⟩, hini⟩ := ho
    have hci' : ci < 7 := pm_blt hci
    intro H locs ls hl hH hS hn
    have hcl7 : ci < pm_fd.length := hci'
    have hfd : pm_fd[ci]? = some pm_fd[ci] := List.getElem?_eq_getElem hcl7
    have hnm : (pm_fd[ci]).1 = pm_cn ci := by
      have h1 := List.all_eq_true.mp pm_fd_cn ci (List.mem_range.mpr hci')
      have h2 := of_decide_eq_true h1
      rw [List.getD_eq_getElem?_getD, hfd] at h2
      exact h2
    have h0 : pm_fs0 ci = (pm_fd[ci]).2 := by unfold pm_fs0; rw [List.getD_eq_getElem?_getD, hfd]; rfl
    have hc : pm_cl[ci]? = some ((pm_fd[ci]).1, pm_T (pm_fd[ci]).2, (pm_fd[ci]).2.length) := by unfold pm_cl; rw [List.getElem?_map, hfd]; rfl
    have hm : pm_fd[ci] ∈ pm_fd := List.getElem_mem hcl7
    have hw : ∀ w ∈ u_ws (pm_fd[ci]).1 (pm_T (pm_fd[ci]).2) (pm_fd[ci]).2.length, w ∈ pm_ga := fun w hw => pm_in (List.all_eq_true.mp (List.all_eq_true.mp pm_fdw _ hm) w hw)
    have hpt : ∀ k, k < (pm_fd[ci]).2.length → parseFieldDescriptor (pm_T (pm_fd[ci]).2 k).2.2.1 = some (pm_ft ((pm_fd[ci]).2.getD k ("", "", "", false, 0))) := fun k hk => of_decide_eq_true (List.all_eq_true.mp (List.all_eq_true.mp pm_fdt _ hm) k (List.mem_range.mpr hk))
    have hKn := hK.1.1 ci _ hc
    have hsz : pm_sz u.1 = (pm_fs0 ci).length := by unfold pm_sz; rw [pm_kx_of hkd]
    obtain ⟨r1, r2, r3, r4⟩ := pm_room1 hR hn hk.1 hsz
    refine W.newcK hx hb hown (hga _ (pm_in hcl)) (hga _ (pm_in hinst)) (hga _ (pm_in hini)) rfl hd r1 r2 (by rw [← hnm]; exact hKn.2.1) rfl fun H1 kC hkC e1 z1 o1 => ?_
    have hgrow : pm_H G (pm_made u) H1 := by
      refine pm_grow hH z1 o1 ?_
      rw [pm_kx_of hkd]
      refine ⟨_, hc, ?_⟩
      have hborn := u_born (o := H.size) _ hga hw hKn hkC e1 hpt
      rw [hH.1] at hborn
      refine hborn.to (fun k hk => ?_)
      have hq : (pm_fd[ci]).2[k]? = some (pm_fd[ci]).2[k] := List.getElem?_eq_getElem hk
      obtain ⟨-, -, -, -, htl, -, -, -, hgd, hty⟩ := pm_slot (C := (pm_fd[ci]).1) (fs := (pm_fd[ci]).2) hfd hq
      show _ = vp_V (pm_fs (pm_tl (pm_fs0 ci)) G.2.2.1 (fun _ => 0) (fun _ => false) (fun _ => none)) k
      rw [hgd, h0]
      unfold vp_V
      rw [List.getD_eq_getElem?_getD, pm_fs_get (by unfold pm_tl; rw [List.length_map]; exact hk), htl]
      rcases hty with ⟨t1, t2⟩ | ⟨t1, t2⟩ | ⟨t1, t2⟩
      · rw [t1, t2]; rfl
      · rw [t1, t2]; rfl
      · rw [t1]
        revert t2
        cases pm_ft (pm_fd[ci]).2[k] <;> intro t2 <;> first | rfl | cases t2
    have h2 := hk.2 H1 locs ls hl hgrow (pm_grow_S hS z1 o1) (Nat.le_succ_of_le hn)
    rw [r3, r4, hH.1]
    exact h2
theorem pm_s_newarray {a : Jvm.ClassFile.ArrayType} {cal : Nat → List pm_V → pm_S → Option pm_Rs} {rk : Nat} {kr : pm_Rs → Prop} (E : pm_E G sc M d p R s m args meth c) (hR : nf - n0 ≤ R.cells ∧ pm_sl nf - pm_sl n0 ≤ R.slots) (hd : decode M.2.1 pc = .ok (.newarray a, 2)) (ho : pm_oki MT M pc (.newarray a) ax = true)
    (h : pm_do cal sc rk (.newarray a) (pc + 2) ax lv st u (pm_kk p l e R s m args below meth c Q G M.2.2.1 n0 nf) kr False) : pm_PW p l e R s m args below meth c Q G M.2.2.1 n0 pc lv st u := by
  obtain ⟨hx, hb, -, hown, hga, hK, hX, -⟩ := E
  rcases ax with _ | ⟨t, _ | ⟨t2, ax⟩⟩
  · exact h.elim
  · rcases st with _ | ⟨i | v, st⟩
    · exact h.elim
    · change (bif !(decide (i < 0)) then _ else False) at h
      by_cases hneg : i < 0
      · rw [decide_eq_true hneg] at h
        exact h.elim
      · rw [decide_eq_false hneg] at h
        obtain ⟨hkd, hk⟩ := pm_new_spec h
        intro H locs ls hl hH hS hn
        have hsz : pm_sz u.1 = i.toNatClampNeg := by unfold pm_sz; rw [pm_kx_of hkd]
        obtain ⟨r1, r2, r3, r4⟩ := pm_room1 hR hn hk.1 hsz
        have hlen : i.toNatClampNeg ≤ 144 := by
          have key : (pm_kds.all (fun c => c.all (fun q => match q with | .inl _ => true | .inr a => Nat.ble a.2 144))) = true := by decide
          have hmem : (Sum.inr (t, i.toNatClampNeg) : pm_Kd) ∈ pm_kds.getD (u.1 / 8) [] := List.mem_of_getElem? hkd
          have hmem2 : pm_kds.getD (u.1 / 8) [] ∈ pm_kds := by
            rw [List.getD_eq_getElem?_getD] at hmem ⊢
            cases hq : pm_kds[u.1 / 8]? with
            | none => rw [hq] at hmem; cases hmem
            | some ch => exact List.mem_of_getElem? hq
          exact Nat.le_of_ble_eq_true (List.all_eq_true.mp (List.all_eq_true.mp key _ hmem2) _ hmem)
        simp only [pm_oki, Bool.or_eq_true, Bool.and_eq_true, decide_eq_true_eq] at ho
        rcases ho with ⟨⟨ha, ht⟩, hac⟩ | ⟨⟨ha, ht⟩, hac⟩
        · subst ha
          have ht0 := pm_beq ht
          subst ht0
          refine va_newaK hx hb (atype := .int) (hga _ (pm_in hac)) rfl hd rfl hneg rfl (by show _ * 4 ≤ _; omega) r1 r2 hH.1 fun H1 cA e1 z1 o1 hAr hNm => ?_
          have hcA : cA = G.2.1 0 := Option.some.inj (hNm.symm.trans (hK.1.2 0 _ rfl).2)
          subst hcA
          have hgrow : pm_H G (pm_made u) H1 := by
            refine pm_grow hH (by rw [z1, hH.1]) (fun q hq => o1 q (by rw [hH.1] at hq; exact hq)) ?_
            rw [pm_kx_of hkd]
            exact e1
          have h2 := hk.2 H1 locs ls hl hgrow (pm_grow_S hS (by rw [z1, hH.1]) (fun q hq => o1 q (by rw [hH.1] at hq; exact hq))) (Nat.le_succ_of_le hn)
          rw [r3, r4]
          exact h2
        · subst ha
          have ht0 := pm_beq ht
          subst ht0
          refine va_newaK hx hb (atype := .boolean) (hga _ (pm_in hac)) rfl hd rfl hneg rfl (by show _ * 1 ≤ _; omega) r1 r2 hH.1 fun H1 cA e1 z1 o1 hAr hNm => ?_
          have hcA : cA = G.2.1 1 := Option.some.inj (hNm.symm.trans (hK.1.2 1 _ rfl).2)
          subst hcA
          have hgrow : pm_H G (pm_made u) H1 := by
            refine pm_grow hH (by rw [z1, hH.1]) (fun q hq => o1 q (by rw [hH.1] at hq; exact hq)) ?_
            rw [pm_kx_of hkd]
            exact e1
          have h2 := hk.2 H1 locs ls hl hgrow (pm_grow_S hS (by rw [z1, hH.1]) (fun q hq => o1 q (by rw [hH.1] at hq; exact hq))) (Nat.le_succ_of_le hn)
          rw [r3, r4]
          exact h2
    · exact h.elim
  · rcases st with _ | ⟨i | v, st⟩ <;> exact h.elim
theorem pm_s_anewarray {i0 : Nat} {cal : Nat → List pm_V → pm_S → Option pm_Rs} {rk : Nat} {kr : pm_Rs → Prop} (E : pm_E G sc M d p R s m args meth c) (hR : nf - n0 ≤ R.cells ∧ pm_sl nf - pm_sl n0 ≤ R.slots) (hd : decode M.2.1 pc = .ok (.anewarray i0, 3)) (ho : pm_oki MT M pc (.anewarray i0) ax = true)
    (h : pm_do cal sc rk (.anewarray i0) (pc + 3) ax lv st u (pm_kk p l e R s m args below meth c Q G M.2.2.1 n0 nf) kr False) : pm_PW p l e R s m args below meth c Q G M.2.2.1 n0 pc lv st u := by
  obtain ⟨hx, hb, -, hown, hga, hK, hX, -⟩ := E
  rcases ax with _ | ⟨t, _ | ⟨t2, ax⟩⟩
  · exact h.elim
  · rcases st with _ | ⟨i | v, st⟩
    · exact h.elim
    · change (bif !(decide (i < 0)) then _ else False) at h
      by_cases hneg : i < 0
      · rw [decide_eq_true hneg] at h
        exact h.elim
      · rw [decide_eq_false hneg] at h
        obtain ⟨hkd, hk⟩ := pm_new_spec h
        intro H locs ls hl hH hS hn
        have hsz : pm_sz u.1 = i.toNatClampNeg := by unfold pm_sz; rw [pm_kx_of hkd]
        obtain ⟨r1, r2, r3, r4⟩ := pm_room1 hR hn hk.1 hsz
        have hlen : i.toNatClampNeg ≤ 144 := by
          have key : (pm_kds.all (fun c => c.all (fun q => match q with | .inl _ => true | .inr a => Nat.ble a.2 144))) = true := by decide
          have hmem : (Sum.inr (t, i.toNatClampNeg) : pm_Kd) ∈ pm_kds.getD (u.1 / 8) [] := List.mem_of_getElem? hkd
          have hmem2 : pm_kds.getD (u.1 / 8) [] ∈ pm_kds := by
            rw [List.getD_eq_getElem?_getD] at hmem ⊢
            cases hq : pm_kds[u.1 / 8]? with
            | none => rw [hq] at hmem; cases hmem
            | some ch => exact List.mem_of_getElem? hq
          exact Nat.le_of_ble_eq_true (List.all_eq_true.mp (List.all_eq_true.mp key _ hmem2) _ hmem)
        have fin : ∀ (C : String), va_AO C s → Cond.classLink M.1.cls i0 C ∈ pm_ga → (pm_tys G.2.1)[t]? = some (G.2.1 t, .object C) → 2 ≤ t → W p l e R s m args below meth c H locs (u.1 - n0) (pm_sl u.1 - pm_sl n0) Q (F0 m pc ls (.int i :: st.map (pm_vl G.2.2.1 G.2.2.2))) := by
          intro C hao hlk hty h2t
          refine W.anew hx hb hown (hga _ hlk) (va_AO.use hao) rfl hd rfl hneg (by omega) r1 r2 fun cA kA comp f1 f2 f3 f4 => ?_
          obtain ⟨kA', comp', -, -, -, k4⟩ := (hK.1.2 t _ hty).2
          have hcA : cA = G.2.1 t := Option.some.inj (f1.symm.trans k4)
          subst hcA
          generalize hH1 : H.push ({ cls := G.2.1 t, slots := Array.replicate i.toNatClampNeg .null, vm := .none } : Cell) = H1
          have z1 : H1.size = H.size + 1 := by rw [← hH1, Array.size_push]
          have e1 : H1[H.size]? = some (arrV (G.2.1 t) i.toNatClampNeg (fun _ => .null)) := by rw [← hH1, Array.getElem?_push_size, ← arrV_new]
          have o1 : ∀ q : Nat, q < H.size → H1[q]? = H[q]? := fun q hq => by rw [← hH1, Array.getElem?_push, if_neg (Nat.ne_of_lt hq)]
          have hgrow : pm_H G (pm_made u) H1 := by
            refine pm_grow hH z1 o1 ?_
            rw [pm_kx_of hkd]
            show H1[G.2.2.1 + u.1]? = some (vp_cell (G.2.1 t) (i.toNatClampNeg, pm_ac t G.2.2.1 (fun _ => 0) (fun _ => false) (fun _ => none)))
            rw [← hH.1, e1, pm_ac_cell]
            rcases t with _ | _ | t
            · omega
            · omega
            · rfl
          have h2 := hk.2 H1 locs ls hl hgrow (pm_grow_S hS z1 o1) (Nat.le_succ_of_le hn)
          rw [r3, r4, hH.1]
          exact h2
        simp only [pm_oki, Bool.or_eq_true, Bool.and_eq_true] at ho
        rcases ho with ⟨ht, hac⟩ | ⟨ht, hac⟩
        · have ht0 := pm_beq ht
          subst ht0
          exact fin _ hK.2.2.1 (pm_in hac) rfl (by decide)
        · have ht0 := pm_beq ht
          subst ht0
          exact fin _ hK.2.2.2 (pm_in hac) rfl (by decide)
    · exact h.elim
  · rcases st with _ | ⟨i | v, st⟩ <;> exact h.elim
end PMA

/-! The memory's instructions. -/
theorem pm_fdw : pm_fd.all (fun q => (u_ws q.1 (pm_T q.2) q.2.length).all pm_has) = true := by decide +kernel
def pm_ft (q : pm_Fd) : FieldType := (parseFieldDescriptor q.2.2.1).getD .int
def pm_isr (t : FieldType) : Bool := match t with
  | .object _ => true
  | .array _ => true
  | _ => false
theorem pm_fdt : pm_fd.all (fun q => (List.range q.2.length).all (fun k => decide (parseFieldDescriptor (pm_T q.2 k).2.2.1 = some (pm_ft (q.2.getD k ("", "", "", false, 0)))))) = true := by decide +kernel
theorem pm_fdy : pm_fd.all (fun q => q.2.all (fun f => (decide (f.2.2.2.2 = 0) && decide (pm_ft f = .int)) || (decide (f.2.2.2.2 = 1) && decide (pm_ft f = .boolean)) || (decide (f.2.2.2.2 = 2) && pm_isr (pm_ft f)))) = true := by decide +kernel
theorem pm_fdn : pm_fd.all (fun q => (List.range q.2.length).all (fun a => (List.range q.2.length).all (fun b => decide (a = b) || decide ((pm_T q.2 a).2.1 ≠ (pm_T q.2 b).2.1)))) = true := by decide +kernel
theorem pm_fd_cn : (List.range 7).all (fun ci => decide ((pm_fd.getD ci ("", [])).1 = pm_cn ci)) = true := by decide +kernel
/-- what is known of a kind of object and one of its slots -/
theorem pm_slot {ci j : Nat} {C : String} {fs : List pm_Fd} {q : pm_Fd} (h : pm_fd[ci]? = some (C, fs)) (hj : fs[j]? = some q) :
    pm_cl[ci]? = some (C, pm_T fs, fs.length) ∧ pm_fs0 ci = fs ∧ j < fs.length ∧ pm_T fs j = (q.1, q.2.1, q.2.2.1, q.2.2.2.1) ∧ (pm_tl fs).getD j 0 = q.2.2.2.2 ∧ (∀ w ∈ u_ws C (pm_T fs) fs.length, w ∈ pm_ga) ∧ (∀ k, k < fs.length → parseFieldDescriptor (pm_T fs k).2.2.1 = some (pm_ft (fs.getD k ("", "", "", false, 0)))) ∧ (∀ a, a < fs.length → ∀ b, b < fs.length → a ≠ b → (pm_T fs a).2.1 ≠ (pm_T fs b).2.1) ∧ fs.getD j ("", "", "", false, 0) = q ∧ ((q.2.2.2.2 = 0 ∧ pm_ft q = .int) ∨ (q.2.2.2.2 = 1 ∧ pm_ft q = .boolean) ∨ (q.2.2.2.2 = 2 ∧ pm_isr (pm_ft q) = true)) := by
  have hm : (C, fs) ∈ pm_fd := List.mem_of_getElem? h
  have hl : j < fs.length := (List.getElem?_eq_some_iff.mp hj).1
  have hg : fs.getD j ("", "", "", false, 0) = q := by rw [List.getD_eq_getElem?_getD, hj]; rfl
  refine ⟨by unfold pm_cl; rw [List.getElem?_map, h]; rfl, by unfold pm_fs0; rw [List.getD_eq_getElem?_getD, h]; rfl, hl, by unfold pm_T; rw [hg], by unfold pm_tl; rw [List.getD_eq_getElem?_getD, List.getElem?_map, hj]; rfl, fun w hw => ?_, fun k hk => ?_, fun a ha b hb hab => ?_, hg, ?_⟩
  · exact pm_in (List.all_eq_true.mp (List.all_eq_true.mp pm_fdw _ hm) w hw)
  · exact of_decide_eq_true (List.all_eq_true.mp (List.all_eq_true.mp pm_fdt _ hm) k (List.mem_range.mpr hk))
  · have h1 := List.all_eq_true.mp (List.all_eq_true.mp (List.all_eq_true.mp pm_fdn _ hm) a (List.mem_range.mpr ha)) b (List.mem_range.mpr hb)
    simp only [Bool.or_eq_true, decide_eq_true_eq] at h1
    rcases h1 with h1 | h1
    · exact absurd h1 hab
    · exact h1
  · have h1 := List.all_eq_true.mp (List.all_eq_true.mp pm_fdy _ hm) q (List.mem_of_getElem? hj)
    simp only [Bool.or_eq_true, Bool.and_eq_true, decide_eq_true_eq] at h1
    rcases h1 with (h1 | h1) | h1
    · exact Or.inl h1
    · exact Or.inr (Or.inl h1)
    · exact Or.inr (Or.inr h1)
theorem pm_fok_spec {own : String} {i ci j ty : Nat} (h : pm_fok own i ci j ty = true) : ∃ (C : String) (fs : List pm_Fd) (q : pm_Fd) (ref : String), pm_fd[ci]? = some (C, fs) ∧ fs[j]? = some q ∧ q.2.2.2.2 = ty ∧ Cond.fieldLink own i ref q.2.1 q.2.2.1 ∈ pm_ga ∧ (ref = q.1 ∨ Cond.sameField ref q.1 q.2.1 q.2.2.1 ∈ pm_ga) := by
  unfold pm_fok at h
  cases h1 : pm_fd[ci]? with
  | none => rw [h1] at h; cases h
  | some Cf =>
    obtain ⟨C, fs⟩ := Cf
    rw [h1] at h
    dsimp only at h
    cases h2 : fs[j]? with
    | none => rw [h2] at h; cases h
    | some q =>
      obtain ⟨D, nm, ds, fin, t⟩ := q
      rw [h2] at h
      simp only [Bool.and_eq_true, List.any_eq_true, Bool.or_eq_true] at h
      obtain ⟨ht, hl | ⟨ref, -, hs, hl⟩⟩ := h
      · exact ⟨C, fs, _, _, rfl, h2, pm_beq ht, pm_in hl, Or.inl rfl⟩
      · exact ⟨C, fs, _, ref, rfl, h2, pm_beq ht, pm_in hl, Or.inr (pm_in hs)⟩
section PMM
variable {p : Program} {l : Launch} {e : Env} {R : Room} {s : State} {m : MethodId} {args : Array Value} {below : List Frame} {meth : Method} {c : Code} {Q : State → Prop}
variable {G : pm_G} {sc : pm_Sc} {M : pm_Mt} {d n0 nf : Nat} {MT : List pm_Mt} {pc : Nat} {ax : List Nat} {lv : pm_Lv} {st : List pm_V} {u : pm_S}
variable {H : Heap} {locs : List Loc} {cells slots : Nat} {ls : Array Slot} {rest : List Value}
theorem pm_w_get (E : pm_E G sc M d p R s m args meth c) (hH : pm_H G u H) {i k ci j ty : Nat} (hcls : pm_cls u.1 k = some ci) (hf : pm_fok M.1.cls i ci j ty = true) (hd : decode M.2.1 pc = .ok (.getfield i, 3))
    (kk : W p l e R s m args below meth c H locs cells slots Q (F0 m (pc + 3) ls (pm_vl G.2.2.1 G.2.2.2 (pm_get ty k j u) :: rest))) : W p l e R s m args below meth c H locs cells slots Q (F0 m pc ls (.ref (G.2.2.1 + k) :: rest)) := by
  obtain ⟨hx, hb, -, hown, hga, hK, -⟩ := E
  obtain ⟨C, fs, q, ref, h1, h2, hty, hl, hs⟩ := pm_fok_spec hf
  obtain ⟨hc, h0, hj, hT, htl, hw, -⟩ := pm_slot h1 h2
  obtain ⟨hk, hkd⟩ := pm_cls_spec hcls
  have he := pm_ws_get (G := G) hk
  rw [pm_kx_of hkd] at he
  refine va_get (D := G.1) (own := M.1.cls) (ref := ref) (Ts := pm_ga) hx hb hga hw hown hK.1 hH.2 k he hc j hj (by rw [hT]; exact hga _ hl) ?_ (v := pm_vl G.2.2.1 G.2.2.2 (pm_get ty k j u)) ?_ hd kk
  · rw [hT]
    intro y hy
    rcases hs with rfl | hs
    · exact hy
    · exact u_same (hga _ hs) y hy
  · rw [h0, pm_fs_get (by unfold pm_tl; rw [List.length_map]; exact hj), htl, hty, pm_vl_get]
/-- a field is written: any value that fits -/
theorem pm_w_put (E : pm_E G sc M d p R s m args meth c) (hH : pm_H G u H) (hS : va_S (pm_A G) s.heap H locs) {i k ci j ty : Nat} (hcls : pm_cls u.1 k = some ci) (hf : pm_fok M.1.cls i ci j ty = true) (hfin : pm_fin M.1.cls (decide (M.1.name = "<init>")) ci j = true) {v : Value} {u' : pm_S}
    (hn1 : u'.1 = u.1) (hval : pm_sv ty G.2.2.1 (u'.2.1 k j) (u'.2.2.1 k j) (u'.2.2.2 k j) = v) (hfit : ∀ q : pm_Fd, q.2.2.2.2 = ty → ((q.2.2.2.2 = 0 ∧ pm_ft q = .int) ∨ (q.2.2.2.2 = 1 ∧ pm_ft q = .boolean) ∨ (q.2.2.2.2 = 2 ∧ pm_isr (pm_ft q) = true)) → narrow (pm_ft q) v = v ∧ fits (pm_ft q) v = true)
    (hxa : ∀ a b, ¬ (a = k ∧ b = j) → u'.2.1 a b = u.2.1 a b) (hwa : ∀ a b, ¬ (a = k ∧ b = j) → u'.2.2.1 a b = u.2.2.1 a b) (hra : ∀ a b, ¬ (a = k ∧ b = j) → u'.2.2.2 a b = u.2.2.2 a b) (hd : decode M.2.1 pc = .ok (.putfield i, 3))
    (kk : ∀ (H1 : Heap) (locs1 : List Loc), pm_H G u' H1 → va_S (pm_A G) s.heap H1 locs1 → W p l e R s m args below meth c H1 locs1 cells slots Q (F0 m (pc + 3) ls rest)) : W p l e R s m args below meth c H locs cells slots Q (F0 m pc ls (v :: .ref (G.2.2.1 + k) :: rest)) := by
  obtain ⟨hx, hb, -, hown, hga, hK, -, hini, -⟩ := E
  obtain ⟨C, fs, q, ref, h1, h2, hty, hl, hs⟩ := pm_fok_spec hf
  obtain ⟨hc, h0, hj, hT, htl, hw, hpt, hnm, hgd, hkind0⟩ := pm_slot h1 h2
  obtain ⟨hk, hkd⟩ := pm_cls_spec hcls
  have he := pm_ws_get (G := G) hk
  rw [pm_kx_of hkd] at he
  have hsame : ∀ y, s.fieldFound? (pm_T fs j).1 (pm_T fs j).2.1 (pm_T fs j).2.2.1 = some y → s.fieldFound? ref (pm_T fs j).2.1 (pm_T fs j).2.2.1 = some y := by
    rw [hT]
    intro y hy
    rcases hs with rfl | hs
    · exact hy
    · exact u_same (hga _ hs) y hy
  have hlink : (Cond.fieldLink M.1.cls i ref (pm_T fs j).2.1 (pm_T fs j).2.2.1).before args s = true := by rw [hT]; exact hga _ hl
  have hd2 : parseFieldDescriptor (pm_T fs j).2.2.1 = some (pm_ft q) := by rw [hpt j hj, hgd]
  have hap := va_apart (own := M.1.cls) hga hw _ hpt hnm hK.1 hc
  obtain ⟨hn, hft⟩ := hfit q hty hkind0
  obtain ⟨q', g1, cell, q1, q2, q3, q4⟩ := hH.2 k _ he
  have hr : q' = (C, pm_T fs, fs.length) := Option.some.inj (g1.symm.trans hc)
  subst hr
  obtain ⟨hSl, hfc, kC, hkC, hkind⟩ := hK.1.1 ci _ hc
  obtain ⟨cf, kf, fi, f, hi, hsl⟩ := hSl j hj
  have hlay := hga _ (hw _ (u_in_lay hj))
  unfold u_lay at hlay
  have hst := (u_facts hfc hkC (u_lays hga hw hj) hi).1
  have hlen : j < (pm_fs (pm_tl (pm_fs0 ci)) G.2.2.1 (u.2.1 k) (u.2.2.1 k) (u.2.2.2 k)).length := by rw [pm_fs_len, h0]; unfold pm_tl; rw [List.length_map]; exact hj
  have hend : ∀ (H' : Heap), H'[G.2.2.1 + k]? = some (cell.setSlot f.slot v) → H'.size = H.size → (∀ q, q ≠ G.2.2.1 + k → H'[q]? = H[q]?) → W p l e R s m args below meth c H' (locs ++ [⟨G.2.2.1 + k, f.slot⟩]) cells slots Q (F0 m (pc + 3) ls rest) := by
    intro H' e1 e2 e3
    rw [hsl] at e1 ⊢
    refine kk H' _ ⟨by rw [e2, hn1]; exact hH.1, ?_⟩ (hS.put e2 e3 (pm_ws_D.2 k _ he))
    have hP := hH.2.set pm_ws_D he (e := .inr (ci, (pm_fs (pm_tl (pm_fs0 ci)) G.2.2.1 (u.2.1 k) (u.2.2.1 k) (u.2.2.2 k)).set j v)) ⟨_, hc, t_OB.to (V := updV (vp_V (pm_fs (pm_tl (pm_fs0 ci)) G.2.2.1 (u.2.1 k) (u.2.2.1 k) (u.2.2.2 k))) j v) ⟨_, e1, q2, q3, t_set q4 hap hj v⟩ (fun a _ => vp_updV_set hlen v a)⟩ e3
    rw [pm_ws_set (u' := u') hn1 ?_ (fun a ha => funext fun b => hxa a b (fun z => ha z.1)) (fun a ha => funext fun b => hwa a b (fun z => ha z.1)) (fun a ha => funext fun b => hra a b (fun z => ha z.1))] at hP
    · exact hP
    · rw [pm_kx_of hkd]
      show Sum.inr (ci, _) = Sum.inr (ci, _)
      rw [pm_fs_set (x' := u'.2.1 k) (w' := u'.2.2.1 k) (r' := u'.2.2.2 k) (by rw [h0]; unfold pm_tl; rw [List.length_map]; exact hj) (by rw [h0, htl, hty]; exact hval) (fun b hb => hxa k b (fun z => hb z.2)) (fun b hb => hwa k b (fun z => hb z.2)) (fun b hb => hra k b (fun z => hb z.2))]
  unfold pm_fin at hfin
  rw [h0, h2] at hfin
  by_cases hq : q.2.2.2.1 = true
  · simp only [hq, Bool.not_true, Bool.false_or, Bool.and_eq_true, decide_eq_true_eq] at hfin
    rw [if_pos (by rw [hT]; exact hq)] at hlay
    have hcf : m.cls = cf := by
      obtain ⟨_, _, c', _, _, _, -, -, hf', -, -, -, hown2, -⟩ := Cond.laysFinal_spec hlay
      have e1 : c' = cf := by have := hi.symm.trans hf'; simp at this; exact this.1.symm
      rw [show (pm_T fs j).1 = M.1.cls by rw [hT]; exact hfin.2] at hown2
      rw [← e1]; exact Option.some.inj (hown.symm.trans hown2)
    have h6 := u_fits hfc hkC hkind (Or.inr hlay) hi hd2 hn hft
    exact W.putFinK hx hb hown hlink (hsame _ hi) hst hcf (hini hfin.1) (by rw [q2]; exact h6) q1 q3 (by rw [hsl]; exact k2_hasslot (q4 j hj)) rfl rfl hd hend
  · rw [if_neg (by rw [hT]; exact hq)] at hlay
    have h6 := u_store hfc hkC hkind hlay hi hd2 hn hft
    exact W.putK hx hb (f := f) ⟨hown, hlink, ⟨_, _, _, hsame _ hi⟩, hst⟩ (by rw [q2]; exact h6) q1 q3 (by rw [hsl]; exact k2_hasslot (q4 j hj)) rfl rfl hd hend
/-- a store, and where it leads -/
theorem pm_put_spec {ty k j : Nat} {v : pm_V} {kg : pm_S → Prop} (h : pm_put ty k j v u kg False) (z b : Nat) : ∃ (u' : pm_S) (w : Value), kg u' ∧ pm_vl z b v = w ∧ u'.1 = u.1 ∧ pm_sv ty z (u'.2.1 k j) (u'.2.2.1 k j) (u'.2.2.2 k j) = w ∧ (∀ a b', ¬ (a = k ∧ b' = j) → u'.2.1 a b' = u.2.1 a b') ∧ (∀ a b', ¬ (a = k ∧ b' = j) → u'.2.2.1 a b' = u.2.2.1 a b') ∧ (∀ a b', ¬ (a = k ∧ b' = j) → u'.2.2.2 a b' = u.2.2.2 a b') ∧
    (∀ q : pm_Fd, q.2.2.2.2 = ty → ((q.2.2.2.2 = 0 ∧ pm_ft q = .int) ∨ (q.2.2.2.2 = 1 ∧ pm_ft q = .boolean) ∨ (q.2.2.2.2 = 2 ∧ pm_isr (pm_ft q) = true)) → narrow (pm_ft q) w = w ∧ fits (pm_ft q) w = true) ∧
    ((ty = 0 ∧ ∃ x, w = .int x ∧ u' = (u.1, pm_up u.2.1 k j x, u.2.2.1, u.2.2.2)) ∨ (ty = 1 ∧ ∃ x : Bool, w = .int (bif x then 1 else 0) ∧ u' = (u.1, u.2.1, pm_up u.2.2.1 k j x, u.2.2.2)) ∨ (ty = 2 ∧ ∃ x, w = .ref (z + x) ∧ u' = (u.1, u.2.1, u.2.2.1, pm_up u.2.2.2 k j (some x)))) := by
  have hup : ∀ {α : Type} (x : Nat → Nat → α) (y : α) (a b' : Nat), ¬ (a = k ∧ b' = j) → pm_up x k j y a b' = x a b' := fun x y a b' hn => by rw [pm_up_eq, if_neg hn]
  have hself : ∀ {α : Type} (x : Nat → Nat → α) (y : α), pm_up x k j y k j = y := fun x y => by rw [pm_up_at, if_pos rfl]
  have bool : ∀ (x : Bool) (v' : Value), v' = .int (bif x then 1 else 0) → ∀ q : pm_Fd, q.2.2.2.2 = 1 → ((q.2.2.2.2 = 0 ∧ pm_ft q = .int) ∨ (q.2.2.2.2 = 1 ∧ pm_ft q = .boolean) ∨ (q.2.2.2.2 = 2 ∧ pm_isr (pm_ft q) = true)) → narrow (pm_ft q) v' = v' ∧ fits (pm_ft q) v' = true := by
    intro x v' hv q h1 h2
    rcases h2 with ⟨h2, -⟩ | ⟨-, h2⟩ | ⟨h2, -⟩
    · rw [h1] at h2; cases h2
    · rw [h2, hv]
      cases x <;> exact ⟨by decide, by decide⟩
    · rw [h1] at h2; cases h2
  rcases ty with _ | _ | _ | ty <;> rcases v with x | w | (_ | q0) | w <;> first | exact h.elim | skip
  · refine ⟨_, _, h, rfl, rfl, congrArg Value.int (hself u.2.1 x), fun a b' hn => hup _ _ a b' hn, fun _ _ _ => rfl, fun _ _ _ => rfl, fun q h1 h2 => ?_, Or.inl ⟨rfl, x, rfl, rfl⟩⟩
    rcases h2 with ⟨-, h2⟩ | ⟨h2, -⟩ | ⟨h2, -⟩
    · rw [h2]; exact ⟨rfl, rfl⟩
    · rw [h1] at h2; cases h2
    · rw [h1] at h2; cases h2
  · change (if x = 0 then _ else if x = 1 then _ else False) at h
    by_cases h0 : x = 0
    · rw [if_pos h0] at h
      subst h0
      exact ⟨_, _, h, rfl, rfl, congrArg (fun q : Bool => Value.int (bif q then 1 else 0)) (hself u.2.2.1 false), fun _ _ _ => rfl, fun a b' hn => hup _ _ a b' hn, fun _ _ _ => rfl, bool false _ rfl, Or.inr (Or.inl ⟨rfl, false, rfl, rfl⟩)⟩
    · rw [if_neg h0] at h
      by_cases h1 : x = 1
      · rw [if_pos h1] at h
        subst h1
        exact ⟨_, _, h, rfl, rfl, congrArg (fun q : Bool => Value.int (bif q then 1 else 0)) (hself u.2.2.1 true), fun _ _ _ => rfl, fun a b' hn => hup _ _ a b' hn, fun _ _ _ => rfl, bool true _ rfl, Or.inr (Or.inl ⟨rfl, true, rfl, rfl⟩)⟩
      · rw [if_neg h1] at h
        exact h.elim
  · exact ⟨_, _, h, rfl, rfl, congrArg (fun q : Bool => Value.int (bif q then 1 else 0)) (hself u.2.2.1 w), fun _ _ _ => rfl, fun a b' hn => hup _ _ a b' hn, fun _ _ _ => rfl, bool w _ rfl, Or.inr (Or.inl ⟨rfl, w, rfl, rfl⟩)⟩
  · refine ⟨_, _, h, rfl, rfl, congrArg (fun q => va_rf (pm_rz z q)) (hself u.2.2.2 (some q0)), fun _ _ _ => rfl, fun _ _ _ => rfl, fun a b' hn => hup _ _ a b' hn, fun q h1 h2 => ?_, Or.inr (Or.inr ⟨rfl, q0, rfl, rfl⟩)⟩
    rcases h2 with ⟨h2, -⟩ | ⟨h2, -⟩ | ⟨-, h2⟩
    · rw [h1] at h2; cases h2
    · rw [h1] at h2; cases h2
    · show narrow (pm_ft q) (.ref (z + q0)) = .ref (z + q0) ∧ _
      revert h2
      cases pm_ft q <;> intro h2 <;> first | exact ⟨rfl, rfl⟩ | cases h2
theorem pm_any {ci : Nat} {cis : List Nat} {f : Nat → Bool} (h : cis.any (Nat.beq ci) = true) (hf : cis.all f = true) : f ci = true := by
  obtain ⟨x, hx, he⟩ := List.any_eq_true.mp h
  rw [pm_beq he]
  exact List.all_eq_true.mp hf x hx
theorem pm_s_get {i : Nat} {cal : Nat → List pm_V → pm_S → Option pm_Rs} {rk : Nat} {kr : pm_Rs → Prop} (E : pm_E G sc M d p R s m args meth c) (hd : decode M.2.1 pc = .ok (.getfield i, 3)) (ho : pm_oki MT M pc (.getfield i) ax = true)
    (h : pm_do cal sc rk (.getfield i) (pc + 3) ax lv st u (pm_kk p l e R s m args below meth c Q G M.2.2.1 n0 nf) kr False) : pm_PW p l e R s m args below meth c Q G M.2.2.1 n0 pc lv st u := by
  rcases ax with _ | ⟨j, _ | ⟨ty, cis⟩⟩
  · exact h.elim
  · exact h.elim
  · obtain ⟨k, ci, st', rfl, hcls, hk⟩ := pm_obj_spec h
    cases ha : cis.any (Nat.beq ci) with
    | false => rw [ha] at hk; exact hk.elim
    | true =>
      rw [ha] at hk
      exact fun H locs ls hl hH hS hn => pm_w_get E hH hcls (pm_any (f := fun ci => pm_fok M.1.cls i ci j ty) ha ho) hd (hk.2 H locs ls hl hH hS hn)
theorem pm_s_put {i : Nat} {cal : Nat → List pm_V → pm_S → Option pm_Rs} {rk : Nat} {kr : pm_Rs → Prop} (E : pm_E G sc M d p R s m args meth c) (hd : decode M.2.1 pc = .ok (.putfield i, 3)) (ho : pm_oki MT M pc (.putfield i) ax = true)
    (h : pm_do cal sc rk (.putfield i) (pc + 3) ax lv st u (pm_kk p l e R s m args below meth c Q G M.2.2.1 n0 nf) kr False) : pm_PW p l e R s m args below meth c Q G M.2.2.1 n0 pc lv st u := by
  rcases ax with _ | ⟨j, _ | ⟨ty, _ | ⟨fi, cis⟩⟩⟩
  · exact h.elim
  · exact h.elim
  · exact h.elim
  · rcases st with _ | ⟨v, st⟩
    · exact h.elim
    · obtain ⟨k, ci, st', rfl, hcls, hk⟩ := pm_obj_spec h
      cases ha : cis.any (Nat.beq ci) with
      | false => rw [ha] at hk; exact hk.elim
      | true =>
        rw [ha] at hk
        have hf := pm_any ha ho
        simp only [Bool.and_eq_true] at hf
        obtain ⟨u', w, k1, k2, k3, k4, k5, k6, k7, k8, -⟩ := pm_put_spec hk G.2.2.1 G.2.2.2
        intro H locs ls hl hH hS hn
        rw [List.map_cons, k2]
        refine pm_w_put E hH hS hcls hf.1 hf.2 k3 k4 k8 k5 k6 k7 hd (fun H1 locs1 hH1 hS1 => ?_)
        have := k1.2 H1 locs1 ls hl hH1 hS1 (by rw [k3]; exact hn)
        rw [k3] at this
        exact this
end PMM

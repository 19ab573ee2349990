/-! The law from its entry on, out of its loop. -/
theorem pm_arrI {s : State} {args : Array Value} {ty : FieldType} (h : (Cond.arrayClass ty).before args s = true) : ∃ cA : ClassId, ArrOfT s cA ty ∧ s.vm.findClass ("[" ++ ty.toString) = some cA := by
  obtain ⟨c, k, comp, h1, h2, h3⟩ := Cond.arrayClass_spec h
  exact ⟨c, fun n z => ⟨fun k h => (by cases h), k, h2, comp, h3⟩, h1⟩
theorem pm_arrO {s : State} {args : Array Value} {C : String} (h : (Cond.arrayOver (.object C)).before args s = true) : ∃ cA : ClassId, ArrOfT s cA (.object C) ∧ va_RA s cA (.object C) := by
  obtain ⟨comp, c, k, h1, -, h3, h4, h5⟩ := Cond.arrayOver_spec h
  exact ⟨c, fun n z => ⟨fun k h => (by cases h), k, h3, comp, h4⟩, k, comp, h3, h4, h1, h5⟩
theorem pm_cl_ok : ∀ q ∈ pm_cl, (∀ w ∈ u_ws q.1 q.2.1 q.2.2, w ∈ lw_tbl) ∧ Cond.instantiable q.1 q.2.2 ∈ lw_tbl := by decide +kernel
theorem pm_ar_ok : Cond.arrayClass .int ∈ lw_tbl ∧ Cond.arrayClass .boolean ∈ lw_tbl ∧ Cond.arrayOver (.object "PlatformDoors$Frame") ∈ lw_tbl ∧ Cond.arrayOver (.object "PlatformDoors$Leaf") ∈ lw_tbl := by decide +kernel
theorem pm_env {s : State} {args : Array Value} (hts : ∀ w ∈ lw_tbl, w.before args s = true) (z b : Nat) : ∃ (D : va_G) (cA : Nat → ClassId), pm_K (D, cA, z, b) s := by
  have hk : ∀ i : Nat, ∃ (cC : ClassId) (iS : Nat → Nat), ∀ q, pm_cl[i]? = some q → u_Kn s q.1 q.2.1 q.2.2 cC iS := by
    intro i
    cases hq : pm_cl[i]? with
    | none => exact ⟨0, fun _ => 0, fun q h => by cases h⟩
    | some q =>
      have hok := pm_cl_ok q (List.mem_of_getElem? hq)
      obtain ⟨cC, iS, h⟩ := u_known (C := q.1) (T := q.2.1) (N := q.2.2) (n := q.2.2) hts hok.1 (hts _ hok.2)
      exact ⟨cC, iS, fun q' h' => by cases h'; exact h⟩
  obtain ⟨c0, a0, b0⟩ := pm_arrI (hts _ pm_ar_ok.1)
  obtain ⟨c1, a1, b1⟩ := pm_arrI (hts _ pm_ar_ok.2.1)
  obtain ⟨c2, a2, b2⟩ := pm_arrO (hts _ pm_ar_ok.2.2.1)
  obtain ⟨c3, a3, b3⟩ := pm_arrO (hts _ pm_ar_ok.2.2.2)
  refine ⟨(fun i => Classical.choose (hk i), fun i => Classical.choose (Classical.choose_spec (hk i))), fun t => match t with | 0 => c0 | 1 => c1 | 2 => c2 | _ => c3, ⟨fun i q hq => Classical.choose_spec (Classical.choose_spec (hk i)) q hq, fun k q hq => ?_⟩, fun w hw => ?_, va_AO.of (hts _ pm_ar_ok.2.2.1), va_AO.of (hts _ pm_ar_ok.2.2.2)⟩
  · rcases k with _ | _ | _ | _ | k
    · cases hq; exact ⟨a0, b0⟩
    · cases hq; exact ⟨a1, b1⟩
    · cases hq; exact ⟨a2, b2⟩
    · cases hq; exact ⟨a3, b3⟩
    · cases hq
  · simp only [pm_hasN, Bool.and_eq_true, decide_eq_true_eq] at hw
    have h1 := pm_tb_of hts w hw.1
    rcases pm_isN_cases hw.2 with ⟨a, i, x, h, rfl⟩ | ⟨x, rfl⟩
    · exact va_Nw.of rfl h1
    · exact va_Nw.of rfl h1
section PMS
variable {p : Program} {l : Launch} {e : Env} {R : Room} {s : State} {m : MethodId} {args : Array Value} {below : List Frame} {meth : Method} {c : Code} {Q : State → Prop} {G : pm_G} {sc : pm_Sc}
theorem pm_s_one {M : pm_Mt} {d n0 nf pc rk : Nat} {MT : List pm_Mt} {cal : Nat → List pm_V → pm_S → Option pm_Rs} {lv : pm_Lv} {st : List pm_V} {u : pm_S} (E : pm_E G sc M d p R s m args meth c) (hok : pm_okm MT M = true) (hR : nf - n0 ≤ R.cells ∧ pm_sl nf - pm_sl n0 ≤ R.slots) (hC : pm_HC l G sc MT d cal) (hrk : M.2.2.2.2.2 = rk) (hu : u.1 ≤ nf)
    (h1 : pm_stp cal sc rk M.2.2.2.2.1 pc lv st u (pm_kk p l e R s m args below meth c Q G M.2.2.1 n0 nf) (pm_PE p l e R s m args below meth c Q G M.2.1 rk n0) False) : pm_PW p l e R s m args below meth c Q G M.2.2.1 n0 pc lv st u := by
  unfold pm_stp at h1
  cases hf : pm_find M.2.2.2.2.1 pc with
  | none => rw [hf] at h1; exact h1.elim
  | some q =>
    obtain ⟨ins, nx, ax⟩ := q
    rw [hf] at h1
    obtain ⟨k1, k2, k3⟩ := pm_find_ok hok hf
    exact pm_s_do E hR hC k1 k2 k3 hrk hu h1
theorem pm_new_67 {α : Type} {st : List pm_V} {x : Nat → Nat → Int32} {w : Nat → Nat → Bool} {r : Nat → Nat → Option Nat} {kg : List pm_V → pm_S → α} {kn : α} : pm_new (.inl 6) st ((67, x, w, r) : pm_S) kg kn = kg (pm_r 67 :: st) (pm_made (67, x, w, r)) := by
  have h : pm_kd 67 = some (.inl 6) := rfl
  unfold pm_new
  dsimp only
  rw [h]
  rfl
theorem pm_ph1 {cal : Nat → List pm_V → pm_S → Option pm_Rs} {x1 : Nat → Nat → Int32} {w1 : Nat → Nat → Bool} {r1 : Nat → Nat → Option Nat} {x2 : Nat → Nat → Int32} {w2 : Nat → Nat → Bool} {r2 : Nat → Nat → Option Nat} (E : pm_E G sc pm_mL 8 p R s m args meth c) (hR : 85 - 0 ≤ R.cells ∧ pm_sl 85 - pm_sl 0 ≤ R.slots) (hC : pm_HC l G sc pm_MT 8 cal) (h1 : cal 46 [pm_r 0] (pm_made pm_v0) = some (none, (67, x1, w1, r1))) (h2 : cal 73 [pm_r 67] (pm_made (67, x1, w1, r1)) = some (none, (85, x2, w2, r2)))
    (h : pm_PW p l e R s m args below meth c Q G 4 0 18 (pm_lL 0) [] (85, x2, w2, r2)) : pm_PW p l e R s m args below meth c Q G 4 0 0 [(0, pm_sv0)] [] pm_v0 := by
  refine pm_s_one (M := pm_mL) (nf := 85) (rk := 2) (pc := 0) (lv := [(0, pm_sv0)]) (st := []) (u := pm_v0) E pm_kL hR hC rfl (Nat.le_of_ble_eq_true rfl) ?_
  refine And.intro ?_ ?_
  · exact Nat.le_of_ble_eq_true rfl
  refine pm_s_one (M := pm_mL) (nf := 85) (rk := 2) (pc := 3) (lv := [(0, pm_sv0)]) (st := [pm_r 0]) (u := pm_made pm_v0) E pm_kL hR hC rfl (Nat.le_of_ble_eq_true rfl) ?_
  refine And.intro ?_ ?_
  · exact Nat.le_of_ble_eq_true rfl
  refine pm_s_one (M := pm_mL) (nf := 85) (rk := 2) (pc := 4) (lv := [(0, pm_sv0)]) (st := [pm_r 0, pm_r 0]) (u := pm_made pm_v0) E pm_kL hR hC rfl (Nat.le_of_ble_eq_true rfl) ?_
  show pm_call1 (fun v u => pm_kk p l e R s m args below meth c Q G 4 0 85 7 [(0, pm_sv0)] (v.toList ++ [pm_r 0]) u) False (cal 46 [pm_r 0] (pm_made pm_v0))
  rw [h1]
  refine And.intro ?_ ?_
  · exact Nat.le_of_ble_eq_true rfl
  refine pm_s_one (M := pm_mL) (nf := 85) (rk := 2) (pc := 7) (lv := [(0, pm_sv0)]) (st := [pm_r 0]) (u := (67, x1, w1, r1)) E pm_kL hR hC rfl (Nat.le_of_ble_eq_true rfl) ?_
  refine And.intro ?_ ?_
  · exact Nat.le_of_ble_eq_true rfl
  refine pm_s_one (M := pm_mL) (nf := 85) (rk := 2) (pc := 8) (lv := [(1, pm_r 0), (0, pm_sv0)]) (st := []) (u := (67, x1, w1, r1)) E pm_kL hR hC rfl (Nat.le_of_ble_eq_true rfl) ?_
  show pm_new (.inl 6) [] ((67, x1, w1, r1) : pm_S) (fun st u => pm_kk p l e R s m args below meth c Q G 4 0 85 11 [(1, pm_r 0), (0, pm_sv0)] st u) False
  rw [pm_new_67]
  refine And.intro ?_ ?_
  · exact Nat.le_of_ble_eq_true rfl
  refine pm_s_one (M := pm_mL) (nf := 85) (rk := 2) (pc := 11) (lv := [(1, pm_r 0), (0, pm_sv0)]) (st := [pm_r 67]) (u := pm_made (67, x1, w1, r1)) E pm_kL hR hC rfl (Nat.le_of_ble_eq_true rfl) ?_
  refine And.intro ?_ ?_
  · exact Nat.le_of_ble_eq_true rfl
  refine pm_s_one (M := pm_mL) (nf := 85) (rk := 2) (pc := 12) (lv := [(1, pm_r 0), (0, pm_sv0)]) (st := [pm_r 67, pm_r 67]) (u := pm_made (67, x1, w1, r1)) E pm_kL hR hC rfl (Nat.le_of_ble_eq_true rfl) ?_
  show pm_call1 (fun v u => pm_kk p l e R s m args below meth c Q G 4 0 85 15 [(1, pm_r 0), (0, pm_sv0)] (v.toList ++ [pm_r 67]) u) False (cal 73 [pm_r 67] (pm_made (67, x1, w1, r1)))
  rw [h2]
  refine And.intro ?_ ?_
  · exact Nat.le_of_ble_eq_true rfl
  refine pm_s_one (M := pm_mL) (nf := 85) (rk := 2) (pc := 15) (lv := [(1, pm_r 0), (0, pm_sv0)]) (st := [pm_r 67]) (u := (85, x2, w2, r2)) E pm_kL hR hC rfl (Nat.le_of_ble_eq_true rfl) ?_
  refine And.intro ?_ ?_
  · exact Nat.le_of_ble_eq_true rfl
  refine pm_s_one (M := pm_mL) (nf := 85) (rk := 2) (pc := 16) (lv := [(2, pm_r 67), (1, pm_r 0), (0, pm_sv0)]) (st := []) (u := (85, x2, w2, r2)) E pm_kL hR hC rfl (Nat.le_of_ble_eq_true rfl) ?_
  refine And.intro ?_ ?_
  · exact Nat.le_of_ble_eq_true rfl
  refine pm_s_one (M := pm_mL) (nf := 85) (rk := 2) (pc := 17) (lv := [(2, pm_r 67), (1, pm_r 0), (0, pm_sv0)]) (st := [.inl (Int32.ofInt 0)]) (u := (85, x2, w2, r2)) E pm_kL hR hC rfl (Nat.le_of_ble_eq_true rfl) ?_
  refine And.intro ?_ ?_
  · exact Nat.le_of_ble_eq_true rfl
  · exact h
end PMS
theorem pm_v_e {v : pm_S} {n : Nat} (h : v.1 = n) : ∃ x w r, v = (n, x, w, r) := by
  obtain ⟨k, x, w, r⟩ := v
  cases h
  exact ⟨x, w, r, rfl⟩
theorem pm_o1_e : pm_o1 = some (none, pm_v1) := pm_sn_of (v0 := pm_v0) pm_o1_s
theorem pm_o2_e : pm_o2 = some (none, pm_v2) := pm_sn_of (v0 := pm_v0) pm_o2_s
theorem pm_sl85 : pm_sl 85 - pm_sl 0 ≤ 7209272 := by decide +kernel
theorem pm_start {I : pm_Iv} (hO : ∀ sc : pm_Sc, pm_Ops (pm_call pm_Tf sc 7) I) (hI : I 0 pm_X0 pm_W0 pm_f0) {p : Program} {e : Env} {s : State} {m : MethodId} {below : List Frame} {meth : Method} {c : Code} (l : Launch) {b L : Nat} {xs : Nat → Int32} (hL : L ≤ 2560) (C0 : lw_At p s m meth c b L xs) : W p l e room_1 s m #[Value.ref b] below meth c s.heap [] 0 0 (lw_Z below #[Value.ref b] s) (entryFrame m ([Value.ref b] : List Value).toArray 4) := by
  obtain ⟨hx, hb, hret, hml, hown, hts, hX, hbl, hlk, -⟩ := C0
  obtain ⟨D, cA, hK⟩ := pm_env hts s.heap.size b
  have hga : ∀ w ∈ pm_ga, w.before #[Value.ref b] s = true := fun w hw => pm_tb_of hts w (List.mem_filter.mp hw).1
  have E : pm_E (D, cA, s.heap.size, b) (L, xs) pm_mL 8 p room_1 s m #[Value.ref b] meth c := ⟨hx, hb, hml, hown, hga, hK, ⟨hX, hbl⟩, fun h => absurd h (by decide), by decide, by decide⟩
  have hC : pm_HC l (D, cA, s.heap.size, b) (L, xs) pm_MT 8 (pm_call pm_Tf (L, xs) 7) := pm_s_call pm_Tf_of pm_kall 7
  obtain ⟨x', w', f', hev⟩ := pm_law (sc := (L, xs)) hL (hO (L, xs)) 512 0 pm_X0 pm_W0 pm_f0 rfl hI
  obtain ⟨fu, hloop⟩ := pm_ev_some hev
  have hR : 85 - 0 ≤ room_1.cells ∧ pm_sl 85 - pm_sl 0 ≤ room_1.slots := ⟨by decide, pm_sl85⟩
  have hend : pm_PE p l e room_1 s m #[Value.ref b] below meth c (lw_Z below #[Value.ref b] s) (D, cA, s.heap.size, b) code 2 0 (some (pm_b true), pm_u x' w' f') := by
    intro H locs ls pc hH hS hn hshp hd
    refine va_forget (fun q hq => hS.2.2 q hq) ?_
    refine W.widen (k := 630992) (n := 7209272) hR.1 hR.2 ?_
    exact lw_ret hx hb hret hlk hd
  have k18 := pm_s_loop (l := l) (e := e) (below := below) (n0 := 0) (M := pm_mL) (rk := 2) (r := (some (pm_b true), pm_u x' w' f')) E pm_kL hR hC (fun mi av u v u' h => pm_call_n 7 mi av u v u' h) rfl hend fu 18 (pm_lL (5 * 0)) [] (pm_u pm_X0 pm_W0 pm_f0) hloop
  obtain ⟨x1, w1, r1, hv1⟩ := pm_v_e pm_v1_n
  obtain ⟨x2, w2, r2, hv2⟩ := pm_v_e pm_v2_n
  have h1 : pm_call pm_Tf (L, xs) 7 46 [pm_r 0] (pm_made pm_v0) = some (none, pm_v1) := pm_callF_ok pm_Tc_T pm_Tc_n 7 46 [pm_r 0] (pm_made pm_v0) _ pm_o1_e
  have h2 : pm_call pm_Tf (L, xs) 7 73 [pm_r 67] (pm_made pm_v1) = some (none, pm_v2) := pm_callF_ok pm_Tc_T pm_Tc_n 7 73 [pm_r 67] (pm_made pm_v1) _ pm_o2_e
  have hag := pm_ag2
  rw [hv2] at h2 hag
  rw [hv1] at h1 h2
  have k18' : pm_PW p l e room_1 s m #[Value.ref b] below meth c (lw_Z below #[Value.ref b] s) (D, cA, s.heap.size, b) 4 0 18 (pm_lL 0) [] (85, x2, w2, r2) := fun H locs ls hls hH hS hn => k18 H locs ls hls (pm_ag_H hag hH) hS hn
  have k0 := pm_ph1 E hR hC h1 h2 k18'
  rw [lg_entry_eq]
  have hloc : lv_has ((lg_sl ([pm_sv0].map (pm_vl s.heap.size b)) ++ List.replicate (4 - (lg_sl ([pm_sv0].map (pm_vl s.heap.size b))).length) Slot.unset).toArray) 4 (pm_lvv s.heap.size b (pm_args 0 [pm_sv0])) := by
    rw [← pm_args_eq]
    exact lv_entry _ (by rw [pm_slen]; exact Nat.le_of_ble_eq_true rfl)
  exact k0 s.heap [] _ hloc ⟨rfl, fun k q hq => by cases hq⟩ va_S.rf (Nat.le_refl _)

/-! Calls, and the whole: what my small machine does, the model does. -/
theorem pm_pop_spec : ∀ (n : Nat) (acc st as st' : List pm_V), pm_pop n acc st = some (as, st') → ∃ pre, st = pre ++ st' ∧ as = pre.reverse ++ acc ∧ pre.length = n
  | 0, acc, st, as, st', h => by cases h; exact ⟨[], rfl, rfl, rfl⟩
  | n + 1, acc, [], as, st', h => by cases h
  | n + 1, acc, v :: st, as, st', h => by
    obtain ⟨pre, h1, h2, h3⟩ := pm_pop_spec n (v :: acc) st as st' h
    exact ⟨v :: pre, by rw [h1]; rfl, by rw [h2]; simp, by simp [h3]⟩
theorem pm_pop0 {n : Nat} {st as st' : List pm_V} (h : pm_pop n [] st = some (as, st')) : st = as.reverse ++ st' ∧ as.length = n := by
  obtain ⟨pre, h1, h2, h3⟩ := pm_pop_spec n [] st as st' h
  rw [List.append_nil] at h2
  exact ⟨by rw [h2, List.reverse_reverse]; exact h1, by rw [h2, List.length_reverse]; exact h3⟩
theorem pm_catsum (z b : Nat) : ∀ st : List pm_V, ((st.map (pm_vl z b)).map fun v => v.category).sum = st.length
  | [] => rfl
  | v :: st => by
    rw [List.map_cons, List.map_cons, List.sum_cons, pm_cat, pm_catsum z b st, List.length_cons]
    omega
theorem pm_gd_spec {st : List pm_V} {a : Prop} (h : pm_gd st a False) : st.length ≤ 8 ∧ a := by
  unfold pm_gd at h
  cases hb : Nat.ble st.length 8 with
  | false => rw [hb] at h; exact h.elim
  | true => rw [hb] at h; exact ⟨Nat.le_of_ble_eq_true hb, h⟩
theorem pm_call1_spec {kg : Option pm_V → pm_S → Prop} {r : Option pm_Rs} (h : pm_call1 kg False r) : ∃ v u', r = some (v, u') ∧ kg v u' := by
  rcases r with _ | ⟨v, u'⟩
  · exact h.elim
  · exact ⟨v, u', rfl, h⟩
theorem pm_pair_mem {MT : List pm_Mt} {own : String} {i na xn : Nat} : ∀ (ps : List Nat) (ci mi : Nat), pm_pair ps ci = some mi → pm_okp MT own i na xn ps = true → ci < 7 ∧ pm_okc MT mi (na + 1) (fun M => pm_okv own i na (pm_cn xn) (pm_cn ci) M.1) = true
  | [], _, _, h, _ => by cases h
  | [_], _, _, h, _ => by cases h
  | a :: b :: t, ci, mi, h, ho => by
    unfold pm_pair at h
    unfold pm_okp at ho
    simp only [Bool.and_eq_true] at ho
    cases hb : Nat.beq a ci with
    | true =>
      rw [hb] at h
      have e1 := pm_beq hb
      have e2 : b = mi := Option.some.inj h
      subst e1; subst e2
      exact ⟨pm_blt ho.1.1, ho.1.2⟩
    | false =>
      rw [hb] at h
      exact pm_pair_mem t ci mi h ho.2
theorem pm_okc_spec {MT : List pm_Mt} {mi na : Nat} {k : pm_Mt → Bool} (h : pm_okc MT mi na k = true) : ∃ N, MT[mi]? = some N ∧ Cond.code N.1 N.2.1 N.2.2.1 N.2.2.2.1 ∈ pm_ga ∧ Cond.initialized N.1.cls ∈ pm_ga ∧ na ≤ N.2.2.1 ∧ N.2.2.1 ≤ 11 ∧ k N = true := by
  unfold pm_okc at h
  cases hN : MT[mi]? with
  | none => rw [hN] at h; cases h
  | some N =>
    rw [hN] at h
    simp only [Bool.and_eq_true] at h
    exact ⟨N, rfl, pm_in h.1.1.1.1, pm_in h.1.1.1.2, Nat.le_of_ble_eq_true h.1.1.2, Nat.le_of_ble_eq_true h.1.2, h.2⟩
theorem pm_desc_spec {y : MethodName} {na : Nat} (h : pm_desc y na = true) : y.cls ≠ "java/lang/invoke/MethodHandle" ∧ y.cls ≠ "java/lang/invoke/VarHandle" ∧ (parseMethodDescriptor y.desc).map (fun d => d.parameters.length) = some na := by
  simp only [pm_desc, Bool.and_eq_true, decide_eq_true_eq] at h
  exact ⟨h.1.1, h.1.2, h.2⟩
section PMC
variable {p : Program} {l : Launch} {e : Env} {R : Room} {s : State} {m : MethodId} {args : Array Value} {below : List Frame} {meth : Method} {c : Code} {Q : State → Prop}
variable {G : pm_G} {sc : pm_Sc} {M : pm_Mt} {d n0 nf : Nat} {MT : List pm_Mt} {pc : Nat} {ax : List Nat} {lv : pm_Lv} {st : List pm_V} {u u' : pm_S} {v : Option pm_V}
variable {H : Heap} {locs : List Loc} {cells slots mc ms : Nat} {ls : Array Slot} {rest st0 : List Value} {a : Array Value}
theorem pm_w_call {w : Option Value} (hr : va_Run p l e R s m args below meth c H locs cells slots mc ms (F0 m pc ls st0) rest (pm_Q G w u' a) (pm_A G)) (hS : va_S (pm_A G) s.heap H locs)
    (kk : ∀ (H1 : Heap) (locs1 : List Loc), pm_H G u' H1 → va_S (pm_A G) s.heap H1 locs1 → W p l e R s m args below meth c H1 locs1 (cells + mc) (slots + ms) Q (F0 m (pc + 3) ls (w.toList ++ rest))) : W p l e R s m args below meth c H locs cells slots Q (F0 m pc ls st0) := by
  intro T hT X
  obtain ⟨v', st₀, t, T', L, h0, X', hL, e1, e2, ⟨hv, hP, hz, hk⟩, st⟩ := hr T hT X
  cases hv
  rw [h0] at hz hk
  obtain ⟨t2, a1, b1⟩ := kk T'.heap (locs ++ L) (by rw [e1]; exact hP) ⟨Nat.le_trans hS.1 (by rw [e1]; exact hz), fun q h1 h2 => by rw [e1, hk q (Nat.lt_of_lt_of_le h1 hS.1) h2]; exact hS.2.1 q h1 h2, fun q hq => by
    rcases List.mem_append.mp hq with h | h
    · exact hS.2.2 q h
    · exact hL q h⟩ T' rfl X'
  exact ⟨t2, st t2 a1, b1⟩
/-- the start of a callee, from here -/
theorem pm_pre (E : pm_E G sc M d p R s m args meth c) (hH : pm_H G u H) (hS : va_S (pm_A G) s.heap H locs) (av : List pm_V) : PreS s H (pm_Pc G sc av u) (av.map (pm_vl G.2.2.1 G.2.2.2)) := by
  obtain ⟨hx, hb, -, hown, hga, hK, hX, -⟩ := E
  refine ⟨pm_blind G sc av u, fun U hU hW => ⟨rfl, by rw [hU]; exact hH, hK.moved hW, ?_, hX.2⟩⟩
  rw [hU]
  have hbl : G.2.2.2 < s.heap.size := (Array.getElem?_eq_some_iff.mp hX.1.choose_spec.1).1
  exact (hX.1.kept (hS.2.1 G.2.2.2 hbl (fun q => by have q' : G.2.2.1 ≤ G.2.2.2 := q; have := hX.2; omega))).moved hW.alike
theorem pm_room2 {R : Room} {d d' nL mc ms : Nat} (hd : d = d' + 1) (h1 : d + 1 ≤ R.frames) (h2 : 30 * (d + 1) ≤ R.locals) (hn : nL ≤ 11) : (pm_rm d' mc ms).frames + 1 ≤ R.frames ∧ 8 + (nL + 11) + (pm_rm d' mc ms).locals ≤ R.locals := by
  show d' + 1 + 1 ≤ R.frames ∧ 8 + (nL + 11) + 30 * (d' + 1) ≤ R.locals
  omega
theorem pm_code_in {N : pm_Mt} (h : Cond.code N.1 N.2.1 N.2.2.1 N.2.2.2.1 ∈ pm_ga) : ∀ w ∈ (Cond.code N.1 N.2.1 N.2.2.1 N.2.2.2.1 :: pm_ga), w ∈ pm_ga := by
  intro w hw
  rcases List.mem_cons.mp hw with rfl | hw
  · exact h
  · exact hw
theorem pm_w_virt {i na xn k ci d' : Nat} {as : List pm_V} {N : pm_Mt} (E : pm_E G sc M d p R s m args meth c) (hH : pm_H G u H) (hS : va_S (pm_A G) s.heap H locs) (hcls : pm_cls u.1 k = some ci) (hci : ci < 7) (hcd : Cond.code N.1 N.2.1 N.2.2.1 N.2.2.2.1 ∈ pm_ga) (hini : Cond.initialized N.1.cls ∈ pm_ga) (hnL : N.2.2.1 ≤ 11) (hok : pm_okv M.1.cls i na (pm_cn xn) (pm_cn ci) N.1 = true) (hdd : d = d' + 1)
    (hM : pm_M l G sc d' N (.inr (.inr (.inl (some k))) :: as) u v u') (hlen : as.length = na) (hls : ls.size = M.2.2.1) (hst : st.length ≤ 8) (hd : decode M.2.1 pc = .ok (.invokevirtual i, 3)) (hf : cells + (u'.1 - u.1) ≤ R.cells ∧ slots + (pm_sl u'.1 - pm_sl u.1) ≤ R.slots) :
    va_Run p l e R s m args below meth c H locs cells slots (u'.1 - u.1) (pm_sl u'.1 - pm_sl u.1) (F0 m pc ls ((as.map (pm_vl G.2.2.1 G.2.2.2)).reverse ++ .ref (G.2.2.1 + k) :: st.map (pm_vl G.2.2.1 G.2.2.2))) (st.map (pm_vl G.2.2.1 G.2.2.2)) (pm_Q G (v.map (pm_vl G.2.2.1 G.2.2.2)) u' (Value.ref (G.2.2.1 + k) :: as.map (pm_vl G.2.2.1 G.2.2.2)).toArray) (pm_A G) := by
  have hpre := pm_pre E hH hS (.inr (.inr (.inl (some k))) :: as)
  obtain ⟨hx, hb, hml, hown, hga, hK, hX, -, hfr, hlo⟩ := E
  obtain ⟨hkn, hkd⟩ := pm_cls_spec hcls
  have hcl7 : ci < pm_fd.length := hci
  have hfd : pm_fd[ci]? = some pm_fd[ci] := List.getElem?_eq_getElem hcl7
  have hnm : (pm_fd[ci]).1 = pm_cn ci := by
    have h1 := List.all_eq_true.mp pm_fd_cn ci (List.mem_range.mpr hci)
    have h2 := of_decide_eq_true h1
    rw [List.getD_eq_getElem?_getD, hfd] at h2
    exact h2
  have hc : pm_cl[ci]? = some ((pm_fd[ci]).1, pm_T (pm_fd[ci]).2, (pm_fd[ci]).2.length) := by unfold pm_cl; rw [List.getElem?_map, hfd]; rfl
  obtain ⟨cell, r1, r2, r3⟩ := va_recv hK.1 hH.2 hc (pm_w_cell hkn hkd)
  have hP : PreV s H (pm_cn ci) (G.2.2.1 + k) (pm_Pc G sc (.inr (.inr (.inl (some k))) :: as) u) (as.map (pm_vl G.2.2.1 G.2.2.2)) := ⟨hpre.1, ⟨cell, r1, r2, by rw [← hnm]; exact r3⟩, hpre.2⟩
  have hS0 : CallFix p m c M.2.1 M.2.2.1 s args pm_ga M.1.cls := ⟨hx, hb, hml, hown, hga⟩
  have hR := pm_room2 (mc := u'.1 - u.1) (ms := pm_sl u'.1 - pm_sl u.1) hdd hfr hlo hnL
  have hW8 : 2 * (F0 m pc ls ((as.map (pm_vl G.2.2.1 G.2.2.2)).reverse ++ .ref (G.2.2.1 + k) :: st.map (pm_vl G.2.2.1 G.2.2.2))).monitorRoom + ((st.map (pm_vl G.2.2.1 G.2.2.2)).map fun v => v.category).sum ≤ 8 := by
    rw [pm_catsum]
    show 2 * 0 + st.length ≤ 8
    omega
  have hlen' : (as.map (pm_vl G.2.2.1 G.2.2.2)).length = na := by rw [List.length_map]; exact hlen
  simp only [pm_okv, Bool.and_eq_true, Bool.or_eq_true, decide_eq_true_eq] at hok
  obtain ⟨⟨hds, hinst⟩, hok⟩ := hok
  have hds' := pm_desc_spec hds
  rcases hok with ⟨⟨⟨hxc, hyc⟩, hsel⟩, hlk⟩ | ⟨⟨hlk, hsel⟩, hsame⟩
  · rcases hlk with hlk | hlk
    · refine va_runV hS0 hM (cwV na hga (pm_goodIn fun w hw => ?_) rfl rfl rfl ⟨hyc, hds'⟩ hR) hP rfl hlen' hls rfl hW8 hd hf
      rcases List.mem_append.mp hw with hw | hw
      · simp only [List.mem_cons, List.not_mem_nil, or_false] at hw
        rcases hw with rfl | rfl | rfl | rfl
        · exact pm_in hlk
        · exact pm_in hinst
        · exact pm_in hsel
        · rw [← hyc]; exact hini
      · exact pm_code_in hcd w hw
    · exact va_runVN hS0 hM ⟨va_cnB na hga (pm_goodIn (pm_code_in hcd)) rfl rfl rfl (hK.2.1 _ hlk) (hga _ hini) hds' hR, hga _ (pm_in hinst), hga _ (pm_in hsel)⟩ hP rfl hlen' hls rfl hW8 hd hf
  · rcases hsame with hsame | ⟨⟨hsame, hdec⟩, hdx⟩
    · refine va_runU (x := ⟨pm_cn xn, N.1.name, N.1.desc⟩) (owner := N.1.cls) hS0 hM (va_cwU na hga (pm_goodIn fun w hw => ?_) rfl rfl rfl rfl hds' hR) hP rfl hlen' hls rfl hW8 hd hf
      rcases List.mem_append.mp hw with hw | hw
      · simp only [List.mem_cons, List.not_mem_nil, or_false] at hw
        rcases hw with rfl | rfl | rfl | rfl | rfl
        · exact pm_in hlk
        · exact pm_in hsame
        · exact pm_in hsel
        · exact pm_in hinst
        · exact hini
      · exact pm_code_in hcd w hw
    · refine va_runU (x := ⟨pm_cn xn, N.1.name, N.1.desc⟩) (owner := pm_cn xn) hS0 hM (va_cwA na hga (pm_goodIn fun w hw => ?_) rfl rfl rfl (hK.2.1 _ hdec) (pm_desc_spec hdx) hR) hP rfl hlen' hls rfl hW8 hd hf
      rcases List.mem_append.mp hw with hw | hw
      · simp only [List.mem_cons, List.not_mem_nil, or_false] at hw
        rcases hw with rfl | rfl | rfl | rfl | rfl
        · exact pm_in hlk
        · exact pm_in hsame
        · exact pm_in hsel
        · exact pm_in hinst
        · exact hini
      · exact pm_code_in hcd w hw
/-- what is known of calls from here -/
def pm_HC (l : Launch) (G : pm_G) (sc : pm_Sc) (MT : List pm_Mt) (d : Nat) (cal : Nat → List pm_V → pm_S → Option pm_Rs) : Prop := ∀ (mi : Nat) (N : pm_Mt) (av : List pm_V) (u : pm_S) (v : Option pm_V) (u' : pm_S), MT[mi]? = some N → av.length ≤ N.2.2.1 → cal mi av u = some (v, u') → u.1 ≤ u'.1 ∧ ∃ d', d = d' + 1 ∧ pm_M l G sc d' N av u v u'
theorem pm_room3 {a b x y z : Nat} (h1 : x ≤ y) (h2 : y ≤ z) : y - x + (z - y) = z - x := by omega
theorem pm_s_virt {i : Nat} {cal : Nat → List pm_V → pm_S → Option pm_Rs} {rk : Nat} {kr : pm_Rs → Prop} (E : pm_E G sc M d p R s m args meth c) (hR : nf - n0 ≤ R.cells ∧ pm_sl nf - pm_sl n0 ≤ R.slots) (hC : pm_HC l G sc MT d cal) (hd : decode M.2.1 pc = .ok (.invokevirtual i, 3)) (ho : pm_oki MT M pc (.invokevirtual i) ax = true)
    (h : pm_do cal sc rk (.invokevirtual i) (pc + 3) ax lv st u (pm_kk p l e R s m args below meth c Q G M.2.2.1 n0 nf) kr False) : pm_PW p l e R s m args below meth c Q G M.2.2.1 n0 pc lv st u := by
  rcases ax with _ | ⟨na, _ | ⟨xn, ps⟩⟩
  · exact h.elim
  · exact h.elim
  · change (match pm_pop na [] st with | some (as, st) => _ | none => False) at h
    cases hp : pm_pop na [] st with
    | none => rw [hp] at h; exact h.elim
    | some q =>
      obtain ⟨as, st1⟩ := q
      rw [hp] at h
      obtain ⟨k, ci, st2, rfl, hcls, hk⟩ := pm_obj_spec h
      obtain ⟨hst, hlen⟩ := pm_pop0 hp
      cases hpr : pm_pair ps ci with
      | none => rw [hpr] at hk; exact hk.elim
      | some mi =>
        rw [hpr] at hk
        obtain ⟨hs8, hk⟩ := pm_gd_spec hk
        obtain ⟨v, u', hcal, hk⟩ := pm_call1_spec hk
        obtain ⟨hci, hoc⟩ := pm_pair_mem ps ci mi hpr ho
        obtain ⟨N, hN, hcd, hini, hna, hnL, hok⟩ := pm_okc_spec hoc
        obtain ⟨hle, d', hdd, hM⟩ := hC mi N _ u v u' hN (by simp [hlen]; omega) hcal
        intro H locs ls hl hH hS hn
        have hsl1 := pm_sl_le hn
        have hsl2 := pm_sl_le hle
        have hsl3 := pm_sl_le hk.1
        have hk1 := hk.1
        have hrun := pm_w_virt (cells := u.1 - n0) (slots := pm_sl u.1 - pm_sl n0) (ls := ls) (st := st2) (e := e) (below := below) (meth := meth) E hH hS hcls hci hcd hini hnL hok hdd hM hlen hl.1 hs8 hd ⟨by omega, by omega⟩
        have hstk : st.map (pm_vl G.2.2.1 G.2.2.2) = (as.map (pm_vl G.2.2.1 G.2.2.2)).reverse ++ .ref (G.2.2.1 + k) :: st2.map (pm_vl G.2.2.1 G.2.2.2) := by
          rw [hst, List.map_append, List.map_reverse]
          rfl
        rw [hstk]
        refine pm_w_call hrun hS (fun H1 locs1 hH1 hS1 => ?_)
        have h2 := hk.2 H1 locs1 ls hl hH1 hS1 (by omega)
        rw [show u.1 - n0 + (u'.1 - u.1) = u'.1 - n0 by omega, show pm_sl u.1 - pm_sl n0 + (pm_sl u'.1 - pm_sl u.1) = pm_sl u'.1 - pm_sl n0 by omega]
        rw [List.map_append] at h2
        cases v <;> exact h2
theorem pm_s_spec {i : Nat} {cal : Nat → List pm_V → pm_S → Option pm_Rs} {rk : Nat} {kr : pm_Rs → Prop} (E : pm_E G sc M d p R s m args meth c) (hR : nf - n0 ≤ R.cells ∧ pm_sl nf - pm_sl n0 ≤ R.slots) (hC : pm_HC l G sc MT d cal) (hd : decode M.2.1 pc = .ok (.invokespecial i, 3)) (ho : pm_oki MT M pc (.invokespecial i) ax = true)
    (h : pm_do cal sc rk (.invokespecial i) (pc + 3) ax lv st u (pm_kk p l e R s m args below meth c Q G M.2.2.1 n0 nf) kr False) : pm_PW p l e R s m args below meth c Q G M.2.2.1 n0 pc lv st u := by
  rcases ax with _ | ⟨na, _ | ⟨mi, ax⟩⟩
  · rcases st with _ | ⟨x | b | (_ | k) | z, st⟩
    · exact h.elim
    · exact h.elim
    · exact h.elim
    · exact h.elim
    · obtain ⟨hs8, hk⟩ := pm_gd_spec h
      simp only [pm_oki, Bool.and_eq_true] at ho
      obtain ⟨hx, hb, hml, hown, hga, hK, hX, -, hfr, hlo⟩ := E
      intro H locs ls hl hH hS hn
      refine W.objInit hx hb hown (hga _ (pm_in ho.1.1)) (hga _ (pm_in ho.1.2)) (hga _ (pm_in ho.2)) rfl (hl.1.trans hml.symm) (a := G.2.2.1 + k) (rest := st.map (pm_vl G.2.2.1 G.2.2.2)) rfl hd (by omega) ?_ (hk.2 H locs ls hl hH hS hn)
      rw [pm_catsum]
      show 2 * 0 + st.length + 12 ≤ R.locals
      omega
    · exact h.elim
  · exact h.elim
  · change (match pm_pop na [] st with | some (as, .inr (.inr (.inl (some k))) :: st) => _ | _ => False) at h
    cases hp : pm_pop na [] st with
    | none => rw [hp] at h; exact h.elim
    | some q =>
      obtain ⟨as, st1⟩ := q
      rw [hp] at h
      rcases st1 with _ | ⟨x | b | (_ | k) | z, st2⟩
      · exact h.elim
      · exact h.elim
      · exact h.elim
      · exact h.elim
      · obtain ⟨hst, hlen⟩ := pm_pop0 hp
        obtain ⟨hs8, hk⟩ := pm_gd_spec h
        obtain ⟨v, u', hcal, hk⟩ := pm_call1_spec hk
        obtain ⟨N, hN, hcd, hini, hna, hnL, hok⟩ := pm_okc_spec ho
        obtain ⟨hle, d', hdd, hM⟩ := hC mi N _ u v u' hN (by simp [hlen]; omega) hcal
        intro H locs ls hl hH hS hn
        have hsl1 := pm_sl_le hn
        have hsl2 := pm_sl_le hle
        have hsl3 := pm_sl_le hk.1
        have hk1 := hk.1
        have hpre := pm_pre E hH hS (.inr (.inr (.inl (some k))) :: as)
        obtain ⟨hx, hb, hml, hown, hga, hK, hX, -, hfr, hlo⟩ := E
        have hS0 : CallFix p m c M.2.1 M.2.2.1 s args pm_ga M.1.cls := ⟨hx, hb, hml, hown, hga⟩
        have hRR := pm_room2 (mc := u'.1 - u.1) (ms := pm_sl u'.1 - pm_sl u.1) hdd hfr hlo hnL
        have hlen' : (as.map (pm_vl G.2.2.1 G.2.2.2)).length = na := by rw [List.length_map]; exact hlen
        simp only [Bool.and_eq_true, Bool.or_eq_true, decide_eq_true_eq] at hok
        obtain ⟨⟨⟨⟨hds, hnm⟩, hret⟩, hinst⟩, hlk⟩ := hok
        have hds' := pm_desc_spec hds
        have hW8 : 2 * (F0 m pc ls ((as.map (pm_vl G.2.2.1 G.2.2.2)).reverse ++ .ref (G.2.2.1 + k) :: st2.map (pm_vl G.2.2.1 G.2.2.2))).monitorRoom + ((st2.map (pm_vl G.2.2.1 G.2.2.2)).map fun v => v.category).sum ≤ 8 := by
          rw [pm_catsum]
          show 2 * 0 + st2.length ≤ 8
          omega
        have hM' := hM
        unfold pm_M at hM'
        rw [hret] at hM' hcd
        have hcd' : ∀ w ∈ (Cond.code N.1 N.2.1 N.2.2.1 none :: pm_ga), w ∈ pm_ga := by
          intro w hw
          rcases List.mem_cons.mp hw with rfl | hw
          · exact hcd
          · exact hw
        have hrun : va_Run p l e R s m args below meth c H locs (u.1 - n0) (pm_sl u.1 - pm_sl n0) (u'.1 - u.1) (pm_sl u'.1 - pm_sl u.1) (F0 m pc ls ((as.map (pm_vl G.2.2.1 G.2.2.2)).reverse ++ .ref (G.2.2.1 + k) :: st2.map (pm_vl G.2.2.1 G.2.2.2))) (st2.map (pm_vl G.2.2.1 G.2.2.2)) (pm_Q G (v.map (pm_vl G.2.2.1 G.2.2.2)) u' (Value.ref (G.2.2.1 + k) :: as.map (pm_vl G.2.2.1 G.2.2.2)).toArray) (pm_A G) := by
          rcases hlk with hlk | hlk
          · exact va_runI hS0 hM' (cwI na hga (pm_goodIn hcd') rfl rfl rfl (hga _ hini) (hga _ (pm_in hlk)) (hga _ (pm_in hinst)) hnm hds' hRR) hpre rfl hlen' hl.1 rfl hW8 hd ⟨by omega, by omega⟩
          · exact va_runIN hS0 hM' ⟨va_cnB na hga (pm_goodIn hcd') rfl rfl rfl (hK.2.1 _ hlk) (hga _ hini) hds' hRR, hnm, hga _ (pm_in hinst)⟩ hpre rfl hlen' hl.1 rfl hW8 hd ⟨by omega, by omega⟩
        have hstk : st.map (pm_vl G.2.2.1 G.2.2.2) = (as.map (pm_vl G.2.2.1 G.2.2.2)).reverse ++ .ref (G.2.2.1 + k) :: st2.map (pm_vl G.2.2.1 G.2.2.2) := by
          rw [hst, List.map_append, List.map_reverse]
          rfl
        rw [hstk]
        refine pm_w_call hrun hS (fun H1 locs1 hH1 hS1 => ?_)
        have h2 := hk.2 H1 locs1 ls hl hH1 hS1 (by omega)
        rw [show u.1 - n0 + (u'.1 - u.1) = u'.1 - n0 by omega, show pm_sl u.1 - pm_sl n0 + (pm_sl u'.1 - pm_sl u.1) = pm_sl u'.1 - pm_sl n0 by omega]
        rw [List.map_append] at h2
        cases v <;> exact h2
      · exact h.elim
theorem pm_s_static {i : Nat} {cal : Nat → List pm_V → pm_S → Option pm_Rs} {rk : Nat} {kr : pm_Rs → Prop} (E : pm_E G sc M d p R s m args meth c) (hR : nf - n0 ≤ R.cells ∧ pm_sl nf - pm_sl n0 ≤ R.slots) (hC : pm_HC l G sc MT d cal) (hd : decode M.2.1 pc = .ok (.invokestatic i, 3)) (ho : pm_oki MT M pc (.invokestatic i) ax = true)
    (h : pm_do cal sc rk (.invokestatic i) (pc + 3) ax lv st u (pm_kk p l e R s m args below meth c Q G M.2.2.1 n0 nf) kr False) : pm_PW p l e R s m args below meth c Q G M.2.2.1 n0 pc lv st u := by
  rcases ax with _ | ⟨na, _ | ⟨mi, ax⟩⟩
  · exact h.elim
  · obtain ⟨hx, hb, hml, hown, hga, hK, hX, -, hfr, hlo⟩ := E
    rcases na with _ | _ | na
    · obtain ⟨x, y, st', rfl, hk⟩ := pm_op2_spec h
      obtain ⟨hs8, hk⟩ := pm_gd_spec hk
      simp only [pm_oki, Bool.and_eq_true] at ho
      intro H locs ls hl hH hS hn
      have h1 := pm_sl_le hn
      have h2 := hk.1
      have h3 := pm_sl_le h2
      exact va_mmax hx hb (hml.trans hl.1.symm) hown (hga _ (pm_in ho.1.1.1)) (hga _ (pm_in ho.1.1.2)) (hga _ (pm_in ho.1.2)) (hga _ (pm_in ho.2)) (by omega) (by rw [pm_catsum]; omega) (by omega) (by omega) hd (hk.2 H locs ls hl hH hS hn)
    · obtain ⟨x, y, st', rfl, hk⟩ := pm_op2_spec h
      obtain ⟨hs8, hk⟩ := pm_gd_spec hk
      simp only [pm_oki, Bool.and_eq_true] at ho
      intro H locs ls hl hH hS hn
      have h1 := pm_sl_le hn
      have h2 := hk.1
      have h3 := pm_sl_le h2
      exact va_mmin hx hb (hml.trans hl.1.symm) hown (hga _ (pm_in ho.1.1.1)) (hga _ (pm_in ho.1.1.2)) (hga _ (pm_in ho.1.2)) (hga _ (pm_in ho.2)) (by omega) (by rw [pm_catsum]; omega) (by omega) (by omega) hd (hk.2 H locs ls hl hH hS hn)
    · exact h.elim
  · have h' : (match pm_pop na [] st with | some (as, st) => pm_gd st (pm_call1 (fun v u => pm_kk p l e R s m args below meth c Q G M.2.2.1 n0 nf (pc + 3) lv (v.toList ++ st) u) False (cal mi as u)) False | none => False) := by
      rcases na with _ | _ | na <;> exact h
    have ho' : pm_okc MT mi na (fun N => pm_desc N.1 na && pm_has (.static N.1) && ((decide (N.1.cls = M.1.cls) && pm_has (.methodLink M.1.cls i N.1)) || pm_hasN (.methodLinkNest M.1.cls i N.1 pm_host))) = true := by
      rcases na with _ | _ | na <;> exact ho
    cases hp : pm_pop na [] st with
    | none => rw [hp] at h'; exact h'.elim
    | some q =>
      obtain ⟨as, st2⟩ := q
      rw [hp] at h'
      obtain ⟨hst, hlen⟩ := pm_pop0 hp
      obtain ⟨hs8, hk⟩ := pm_gd_spec h'
      obtain ⟨v, u', hcal, hk⟩ := pm_call1_spec hk
      obtain ⟨N, hN, hcd, hini, hna, hnL, hok⟩ := pm_okc_spec ho'
      obtain ⟨hle, d', hdd, hM⟩ := hC mi N _ u v u' hN (by omega) hcal
      intro H locs ls hl hH hS hn
      have hsl1 := pm_sl_le hn
      have hsl2 := pm_sl_le hle
      have hsl3 := pm_sl_le hk.1
      have hk1 := hk.1
      have hpre := pm_pre E hH hS as
      obtain ⟨hx, hb, hml, hown, hga, hK, hX, -, hfr, hlo⟩ := E
      have hS0 : CallFix p m c M.2.1 M.2.2.1 s args pm_ga M.1.cls := ⟨hx, hb, hml, hown, hga⟩
      have hRR := pm_room2 (mc := u'.1 - u.1) (ms := pm_sl u'.1 - pm_sl u.1) hdd hfr hlo hnL
      have hlen' : (as.map (pm_vl G.2.2.1 G.2.2.2)).length = na := by rw [List.length_map]; exact hlen
      simp only [Bool.and_eq_true, Bool.or_eq_true, decide_eq_true_eq] at hok
      obtain ⟨⟨hds, hstat⟩, hlk⟩ := hok
      have hds' := pm_desc_spec hds
      have hW8 : 2 * (F0 m pc ls ((as.map (pm_vl G.2.2.1 G.2.2.2)).reverse ++ st2.map (pm_vl G.2.2.1 G.2.2.2))).monitorRoom + ((st2.map (pm_vl G.2.2.1 G.2.2.2)).map fun v => v.category).sum ≤ 8 := by
        rw [pm_catsum]
        show 2 * 0 + st2.length ≤ 8
        omega
      have hrun : va_Run p l e R s m args below meth c H locs (u.1 - n0) (pm_sl u.1 - pm_sl n0) (u'.1 - u.1) (pm_sl u'.1 - pm_sl u.1) (F0 m pc ls ((as.map (pm_vl G.2.2.1 G.2.2.2)).reverse ++ st2.map (pm_vl G.2.2.1 G.2.2.2))) (st2.map (pm_vl G.2.2.1 G.2.2.2)) (pm_Q G (v.map (pm_vl G.2.2.1 G.2.2.2)) u' (as.map (pm_vl G.2.2.1 G.2.2.2)).toArray) (pm_A G) := by
        rcases hlk with ⟨hcl, hlk⟩ | hlk
        · refine va_runS hS0 hM (cwS na hga (pm_goodIn fun w hw => ?_) rfl rfl rfl ⟨hcl, hds'⟩ hRR) hpre rfl hlen' hl.1 rfl hW8 hd ⟨by omega, by omega⟩
          rcases List.mem_append.mp hw with hw | hw
          · simp only [List.mem_cons, List.not_mem_nil, or_false] at hw
            rcases hw with rfl | rfl | rfl
            · exact pm_in hlk
            · exact pm_in hstat
            · rw [← hcl]; exact hini
          · exact pm_code_in hcd w hw
        · exact va_runSN hS0 hM ⟨va_cnB na hga (pm_goodIn (pm_code_in hcd)) rfl rfl rfl (hK.2.1 _ hlk) (hga _ hini) hds' hRR, hga _ (pm_in hstat), trivial⟩ hpre rfl hlen' hl.1 rfl hW8 hd ⟨by omega, by omega⟩
      have hstk : st.map (pm_vl G.2.2.1 G.2.2.2) = (as.map (pm_vl G.2.2.1 G.2.2.2)).reverse ++ st2.map (pm_vl G.2.2.1 G.2.2.2) := by
        rw [hst, List.map_append, List.map_reverse]
      rw [hstk]
      refine pm_w_call hrun hS (fun H1 locs1 hH1 hS1 => ?_)
      have h2 := hk.2 H1 locs1 ls hl hH1 hS1 (by omega)
      rw [show u.1 - n0 + (u'.1 - u.1) = u'.1 - n0 by omega, show pm_sl u.1 - pm_sl n0 + (pm_sl u'.1 - pm_sl u.1) = pm_sl u'.1 - pm_sl n0 by omega]
      rw [List.map_append] at h2
      cases v <;> exact h2
/-- one step -/
theorem pm_s_do {ins : Jvm.ClassFile.Instr} {nx rk : Nat} {cal : Nat → List pm_V → pm_S → Option pm_Rs} (E : pm_E G sc M d p R s m args meth c) (hR : nf - n0 ≤ R.cells ∧ pm_sl nf - pm_sl n0 ≤ R.slots) (hC : pm_HC l G sc MT d cal) (hd : decode M.2.1 pc = .ok (ins, pm_len ins (nx - pc))) (hnx : nx = pc + pm_len ins (nx - pc)) (ho : pm_oki MT M pc ins ax = true) (hrk : M.2.2.2.2.2 = rk) (hu : u.1 ≤ nf)
    (h : pm_do cal sc rk ins nx ax lv st u (pm_kk p l e R s m args below meth c Q G M.2.2.1 n0 nf) (pm_PE p l e R s m args below meth c Q G M.2.1 rk n0) False) : pm_PW p l e R s m args below meth c Q G M.2.2.1 n0 pc lv st u := by
  cases ins
  case getfield i => simp only [pm_len] at hnx hd; subst hnx; exact pm_s_get E hd ho h
  case putfield i => simp only [pm_len] at hnx hd; subst hnx; exact pm_s_put E hd ho h
  case iaload => simp only [pm_len] at hnx hd; subst hnx; exact pm_s_iaload E hd h
  case baload => simp only [pm_len] at hnx hd; subst hnx; exact pm_s_baload E hd h
  case aaload => simp only [pm_len] at hnx hd; subst hnx; exact pm_s_aaload E hd h
  case iastore => simp only [pm_len] at hnx hd; subst hnx; exact pm_s_iastore E hd h
  case bastore => simp only [pm_len] at hnx hd; subst hnx; exact pm_s_bastore E hd h
  case aastore => simp only [pm_len] at hnx hd; subst hnx; exact pm_s_aastore E hd h
  case arraylength =>
    simp only [pm_len] at hnx hd; subst hnx
    rcases st with _ | ⟨x | b | q | q, st⟩
    · exact h.elim
    · exact h.elim
    · exact h.elim
    · exact h.elim
    · exact pm_s_alen E hd h
  case new i => simp only [pm_len] at hnx hd; subst hnx; exact pm_s_new E hR hd ho h
  case newarray i => simp only [pm_len] at hnx hd; subst hnx; exact pm_s_newarray E hR hd ho h
  case anewarray i => simp only [pm_len] at hnx hd; subst hnx; exact pm_s_anewarray E hR hd ho h
  case invokevirtual i => simp only [pm_len] at hnx hd; subst hnx; exact pm_s_virt E hR hC hd ho h
  case invokespecial i => simp only [pm_len] at hnx hd; subst hnx; exact pm_s_spec E hR hC hd ho h
  case invokestatic i => simp only [pm_len] at hnx hd; subst hnx; exact pm_s_static E hR hC hd ho h
  all_goals exact pm_s_plain E hd hnx ho hrk hu rfl h
/-- a run, to its end -/
theorem pm_s_loop {rk : Nat} {cal : Nat → List pm_V → pm_S → Option pm_Rs} {r : pm_Rs} (E : pm_E G sc M d p R s m args meth c) (hok : pm_okm MT M = true) (hR : r.2.1 - n0 ≤ R.cells ∧ pm_sl r.2.1 - pm_sl n0 ≤ R.slots) (hC : pm_HC l G sc MT d cal) (hcn : ∀ mi av u v u', cal mi av u = some (v, u') → u.1 ≤ u'.1) (hrk : M.2.2.2.2.2 = rk)
    (hend : pm_PE p l e R s m args below meth c Q G M.2.1 rk n0 r) : ∀ (f pc : Nat) (lv : pm_Lv) (st : List pm_V) (u : pm_S), pm_loop cal sc rk M.2.2.2.2.1 f pc lv st u = some r → pm_PW p l e R s m args below meth c Q G M.2.2.1 n0 pc lv st u
  | 0, _, _, _, _, h => by cases h
  | f + 1, pc, lv, st, u, h => by
    have hu : u.1 ≤ r.2.1 := pm_loop_n hcn (f + 1) pc lv st u h
    have h1 : pm_stp cal sc rk M.2.2.2.2.1 pc lv st u (pm_kk p l e R s m args below meth c Q G M.2.2.1 n0 r.2.1) (pm_PE p l e R s m args below meth c Q G M.2.1 rk n0) False := by
      revert h
      exact pm_stp_rel (R := fun (a : Option pm_Rs) (q : Prop) => a = some r → q) (fun pc lv st u h => ⟨pm_loop_n hcn f pc lv st u h, pm_s_loop E hok hR hC hcn hrk hend f pc lv st u h⟩) (fun r' h => by cases h; exact hend) (fun h => by cases h)
    unfold pm_stp at h1
    cases hf : pm_find M.2.2.2.2.1 pc with
    | none => rw [hf] at h1; exact h1.elim
    | some q =>
      obtain ⟨ins, nx, ax⟩ := q
      rw [hf] at h1
      obtain ⟨k1, k2, k3⟩ := pm_find_ok hok hf
      exact pm_s_do E hR hC k1 k2 k3 hrk hu h1
end PMC
theorem pm_args_eq (z b : Nat) : ∀ (av : List pm_V) (i : Nat), lv_args i (av.map (pm_vl z b)) = pm_lvv z b (pm_args i av)
  | [], _ => rfl
  | v :: vs, i => by
    show (i, pm_vl z b v) :: lv_args (if (pm_vl z b v).category = 2 then i + 2 else i + 1) (vs.map (pm_vl z b)) = (i, pm_vl z b v) :: pm_lvv z b (pm_args (i + 1) vs)
    rw [pm_cat, if_neg (by decide), pm_args_eq z b vs (i + 1)]
theorem pm_slen (z b : Nat) : ∀ av : List pm_V, (lg_sl (av.map (pm_vl z b))).length = av.length
  | [] => rfl
  | v :: vs => by
    have ih := pm_slen z b vs
    unfold lg_sl at ih ⊢
    rw [List.map_cons, List.flatMap_cons, List.length_append, ih, pm_cat, if_neg (by decide), List.length_cons]
    simp
    omega
/-- a method's contract out of its run -/
theorem pm_s_met {l : Launch} {G : pm_G} {sc : pm_Sc} {MT : List pm_Mt} {M : pm_Mt} {d : Nat} {cal : Nat → List pm_V → pm_S → Option pm_Rs} {av : List pm_V} {u : pm_S} {r : pm_Rs} (hok : pm_okm MT M = true) (hC : pm_HC l G sc MT d cal) (hcn : ∀ mi av u v u', cal mi av u = some (v, u') → u.1 ≤ u'.1) (hlen : av.length ≤ M.2.2.1) {f : Nat} (h : pm_loop cal sc M.2.2.2.2.2 M.2.2.2.2.1 f 0 (pm_args 0 av) [] u = some r) : pm_M l G sc d M av u r.1 r.2 := by
  have hok2 := hok
  simp only [pm_okm, Bool.and_eq_true] at hok2
  refine Met.ofW (cc := M.2.1) (maxL := M.2.2.1) (ret := M.2.2.2.1) hok2.1.1 rfl ?_
  intro p e s m args below meth c s₁ B hml hv
  obtain ⟨rfl, hH, hK, hX⟩ := hv
  have hts := atoms_spec (ws := .code M.1 M.2.1 M.2.2.1 M.2.2.2.1 :: pm_ga) B.pre
  have hnm := (name_of_methodNamed B.named B.method).1
  have hret : meth.sig.returnType = M.2.2.2.1 := B.returns
  have hlk : meth.locks = false := B.notSynchronized
  rw [lg_entry_eq]
  have E : pm_E G sc M d p (headSpec (.code M.1 M.2.1 M.2.2.1 M.2.2.2.1 :: pm_ga) (pm_rm d (r.2.1 - u.1) (pm_sl r.2.1 - pm_sl u.1))).room s m (av.map (pm_vl G.2.2.1 G.2.2.2)).toArray meth c := ⟨B.exec, B.bytes, hml, findClass_of_methodNamed B.named, fun w hw => hts w (List.mem_cons_of_mem _ hw), hK, hX, fun q => hnm.trans q, Nat.le_refl _, Nat.le_refl _⟩
  have hloc : lv_has ((lg_sl (av.map (pm_vl G.2.2.1 G.2.2.2)) ++ List.replicate (M.2.2.1 - (lg_sl (av.map (pm_vl G.2.2.1 G.2.2.2))).length) Slot.unset).toArray) M.2.2.1 (pm_lvv G.2.2.1 G.2.2.2 (pm_args 0 av)) := by
    rw [← pm_args_eq]
    exact lv_entry _ (by rw [pm_slen]; exact hlen)
  have key := pm_s_loop (l := l) (e := e) (below := below) (n0 := u.1) (r := r) (Q := MQ below (pm_Q G (r.1.map (pm_vl G.2.2.1 G.2.2.2)) r.2) (av.map (pm_vl G.2.2.1 G.2.2.2)).toArray s (r.2.1 - u.1) (pm_sl r.2.1 - pm_sl u.1) (pm_A G)) E hok ⟨Nat.le_refl _, Nat.le_refl _⟩ hC hcn rfl ?_ f 0 (pm_args 0 av) [] u h s.heap [] _ hloc hH va_S.rf (Nat.le_refl _)
  · rw [Nat.sub_self, Nat.sub_self] at key
    exact key
  · intro H locs ls pc hHr hS hn hshp hd
    have hq : ∀ t : State, t.heap = H → s.WarmedH t.vm → pm_Q G (r.1.map (pm_vl G.2.2.1 G.2.2.2)) r.2 (av.map (pm_vl G.2.2.1 G.2.2.2)).toArray s (.returned (r.1.map (pm_vl G.2.2.1 G.2.2.2))) t := fun t ht _ => ⟨rfl, by rw [ht]; exact hHr, hS.F ht⟩
    have hrk := hok2.1.2
    obtain ⟨rv, ru⟩ := r
    revert hrk hret hshp hd
    generalize M.2.2.2.1 = ret
    generalize M.2.2.2.2.2 = rk
    intro hret hd hrk hshp
    rcases rk with _ | _ | _ | _ | rk
    · rcases rv with _ | v
      · rcases ret with _ | t
        · exact W.vret B.exec B.bytes hret hq hS.2.2 hd hlk
        · cases t <;> cases hrk
      · exact hshp.elim
    · rcases rv with _ | x | v
      · exact hshp.elim
      · rcases ret with _ | t
        · cases hrk
        · cases t <;> first | exact W.iret B.exec B.bytes hret hq hS.2.2 hd hlk | cases hrk
      · exact hshp.elim
    · rcases rv with _ | x | b | v
      · exact hshp.elim
      · exact hshp.elim
      · rcases ret with _ | t
        · cases hrk
        · cases t <;> first | (cases hrk; done) | exact W.zret B.exec B.bytes hret (by cases b <;> decide) hq hS.2.2 hd hlk
      · exact hshp.elim
    · rcases rv with _ | x | b | q | q
      · exact hshp.elim
      · exact hshp.elim
      · exact hshp.elim
      · rcases ret with _ | t
        · cases hrk
        · cases t <;> first | exact W.aret B.exec B.bytes hret (Or.inl ⟨_, rfl⟩) (va_rf_or _) hq hS.2.2 hd hlk | cases hrk
      · exact hshp.elim
    · rcases ret with _ | t
      · cases hrk
      · cases t <;> cases hrk
/-- all methods, at every depth -/
theorem pm_s_call {l : Launch} {G : pm_G} {sc : pm_Sc} {MT : List pm_Mt} {T : Nat → pm_Cd × Nat} (hT : ∀ mi N, MT[mi]? = some N → T mi = (N.2.2.2.2.1, N.2.2.2.2.2)) (hok : ∀ M ∈ MT, pm_okm MT M = true) : ∀ d : Nat, pm_HC l G sc MT (d + 1) (pm_call T sc d)
  | 0 => by
    intro mi N av u v u' hN hlen h
    refine ⟨pm_call_n 0 mi av u v u' h, 0, rfl, ?_⟩
    obtain ⟨f, hf⟩ := pm_ev_some h
    rw [hT mi N hN] at hf
    exact pm_s_met (r := (v, u')) (hok N (List.mem_of_getElem? hN)) (fun _ _ _ _ _ _ _ _ h => by cases h) (fun _ _ _ _ _ h => by cases h) hlen hf
  | d + 1 => by
    intro mi N av u v u' hN hlen h
    refine ⟨pm_call_n (d + 1) mi av u v u' h, d + 1, rfl, ?_⟩
    obtain ⟨f, hf⟩ := pm_ev_some h
    rw [hT mi N hN] at hf
    exact pm_s_met (r := (v, u')) (hok N (List.mem_of_getElem? hN)) (pm_s_call hT hok d) (fun mi av u v u' h => pm_call_n d mi av u v u' h) hlen hf

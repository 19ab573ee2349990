/-! The law's loop, over any invariant that every pair of calls keeps. -/
abbrev pm_sv0 : pm_V := .inr (.inr (.inr ()))
abbrev pm_lL (n : Nat) : pm_Lv := [(3, .inl (Int32.ofNat n)), (2, pm_r 67), (1, pm_r 0), (0, pm_sv0)]
section PML
variable {c : Nat → List pm_V → pm_S → Option pm_Rs} {sc : pm_Sc}
theorem pm_l1 {p n : Nat} {st : List pm_V} {u : pm_S} (h : pm_find pm_cL p = some (.aload_n 1, p + 1, [])) : pm_ev c sc 2 pm_cL p (pm_lL n) st u = pm_ev c sc 2 pm_cL (p + 1) (pm_lL n) (pm_r 0 :: st) u := by
  rw [pm_ev_step]
  unfold pm_stp
  rw [h]
  rfl
theorem pm_l2 {p n : Nat} {st : List pm_V} {u : pm_S} (h : pm_find pm_cL p = some (.aload_n 2, p + 1, [])) : pm_ev c sc 2 pm_cL p (pm_lL n) st u = pm_ev c sc 2 pm_cL (p + 1) (pm_lL n) (pm_r 67 :: st) u := by
  rw [pm_ev_step]
  unfold pm_stp
  rw [h]
  rfl
theorem pm_ia {p n m : Nat} {a : Int32} {st : List pm_V} {u : pm_S} (h : pm_find pm_cL p = some (.iaload, p + 1, [])) (ha : a = Int32.ofNat m) (hj : m < sc.1) (hL : sc.1 ≤ 2560) : pm_ev c sc 2 pm_cL p (pm_lL n) (.inl a :: pm_sv0 :: st) u = pm_ev c sc 2 pm_cL (p + 1) (pm_lL n) (.inl (sc.2 m) :: st) u := by
  rw [pm_ev_step]
  unfold pm_stp
  rw [h, ha]
  show (bif Nat.beq 0 0 && pm_ib (Int32.ofNat m) sc.1 then pm_ev c sc 2 pm_cL (p + 1) (pm_lL n) (.inl (sc.2 (Int32.ofNat m).toNatClampNeg) :: st) u else none) = _
  rw [pm_ib_of hj (by omega), show (Int32.ofNat m).toNatClampNeg = m from nI_clamp (by omega)]
  rfl
theorem pm_rd {p n j : Nat} {j' : Int} {st : List pm_V} {u : pm_S} (h0 : pm_find pm_cL p = some (.aload_n 0, p + 1, [])) (h1 : pm_find pm_cL (p + 1) = some (.iload_n 3, p + 2, [])) (h2 : pm_find pm_cL (p + 2) = some (.iconst j', p + 3, [])) (h3 : pm_find pm_cL (p + 3) = some (.iadd, p + 4, [])) (h4 : pm_find pm_cL (p + 4) = some (.iaload, p + 5, [])) (hj' : Int32.ofInt j' = Int32.ofNat j) (hj : n + j < sc.1) (hL : sc.1 ≤ 2560) : pm_ev c sc 2 pm_cL p (pm_lL n) st u = pm_ev c sc 2 pm_cL (p + 5) (pm_lL n) (.inl (sc.2 (n + j)) :: st) u := by
  have e0 : pm_ev c sc 2 pm_cL p (pm_lL n) st u = pm_ev c sc 2 pm_cL (p + 1) (pm_lL n) (pm_sv0 :: st) u := by
    rw [pm_ev_step]
    unfold pm_stp
    rw [h0]
    rfl
  have e1 : ∀ st, pm_ev c sc 2 pm_cL (p + 1) (pm_lL n) st u = pm_ev c sc 2 pm_cL (p + 2) (pm_lL n) (.inl (Int32.ofNat n) :: st) u := by
    intro st
    rw [pm_ev_step]
    unfold pm_stp
    rw [h1]
    rfl
  have e2 : ∀ st, pm_ev c sc 2 pm_cL (p + 2) (pm_lL n) st u = pm_ev c sc 2 pm_cL (p + 3) (pm_lL n) (.inl (Int32.ofInt j') :: st) u := by
    intro st
    rw [pm_ev_step]
    unfold pm_stp
    rw [h2]
    rfl
  have e3 : ∀ (a b : Int32) st, pm_ev c sc 2 pm_cL (p + 3) (pm_lL n) (.inl b :: .inl a :: st) u = pm_ev c sc 2 pm_cL (p + 4) (pm_lL n) (.inl (a + b) :: st) u := by
    intro a b st
    rw [pm_ev_step]
    unfold pm_stp
    rw [h3]
    rfl
  rw [e0, e1, e2, e3, hj']
  exact pm_ia (p := p + 4) h4 (show Int32.ofNat n + Int32.ofNat j = Int32.ofNat (n + j) from nI_add n j) hj hL
theorem pm_cv {p ix na nx k ci mi n : Nat} {stk as st : List pm_V} {x : Nat → Nat → Int32} {w : Nat → Nat → Bool} {f : Nat → Nat → Nat} {v : Option pm_V} {u1 : pm_S} (hf : pm_find pm_cL p = some (.invokevirtual ix, nx, [na, ci, ci, mi])) (hp : pm_pop na [] stk = some (as, pm_r k :: st)) (hk : pm_cls 85 k = some ci) (hb : Nat.beq ci ci = true) (hg : Nat.ble st.length 8 = true) (hc : c mi (pm_r k :: as) (pm_u x w f) = some (v, u1)) : pm_ev c sc 2 pm_cL p (pm_lL n) stk (pm_u x w f) = pm_ev c sc 2 pm_cL nx (pm_lL n) (v.toList ++ st) u1 := by
  rw [pm_ev_step]
  unfold pm_stp
  rw [hf]
  show (match pm_pop na [] stk with | some (as, st) => pm_obj 85 st (fun k ci' st => match pm_pair [ci, mi] ci' with | some mi => pm_gd st (pm_call1 (fun v u => pm_ev c sc 2 pm_cL nx (pm_lL n) (v.toList ++ st) u) none (c mi (pm_r k :: as) (pm_u x w f))) none | none => none) none | none => none) = _
  rw [hp]
  show (match pm_cls 85 k with | some ci' => (match pm_pair [ci, mi] ci' with | some mi => pm_gd st (pm_call1 (fun v u => pm_ev c sc 2 pm_cL nx (pm_lL n) (v.toList ++ st) u) none (c mi (pm_r k :: as) (pm_u x w f))) none | none => none) | none => none) = _
  rw [hk]
  have hq : pm_pair [ci, mi] ci = some mi := by
    unfold pm_pair
    rw [hb]
    rfl
  show (match pm_pair [ci, mi] ci with | some mi => pm_gd st (pm_call1 (fun v u => pm_ev c sc 2 pm_cL nx (pm_lL n) (v.toList ++ st) u) none (c mi (pm_r k :: as) (pm_u x w f))) none | none => none) = _
  rw [hq]
  show pm_gd st (pm_call1 (fun v u => pm_ev c sc 2 pm_cL nx (pm_lL n) (v.toList ++ st) u) none (c mi (pm_r k :: as) (pm_u x w f))) none = _
  unfold pm_gd
  rw [hg, hc]
  rfl
theorem pm_ci {p nx n : Nat} {o : Int} {v : Int32} {u : pm_S} (hf : pm_find pm_cL p = some (.if_icmp .eq o, nx, [713])) : pm_ev c sc 2 pm_cL p (pm_lL n) [.inl v, .inl v] u = pm_ev c sc 2 pm_cL 713 (pm_lL n) [] u := by
  rw [pm_ev_step]
  unfold pm_stp
  rw [hf]
  exact if_pos rfl
theorem pm_cb {p nx n : Nat} {o : Int} {v : Bool} {u : pm_S} (hf : pm_find pm_cL p = some (.if_icmp .eq o, nx, [713])) : pm_ev c sc 2 pm_cL p (pm_lL n) [pm_b v, pm_b v] u = pm_ev c sc 2 pm_cL 713 (pm_lL n) [] u := by
  rw [pm_ev_step]
  unfold pm_stp
  rw [hf]
  exact if_pos rfl
theorem pm_nz {p n : Nat} {o1 o2 : Int} {a : Int32} {st : List pm_V} {u : pm_S} (h0 : pm_find pm_cL p = some (.ifCond .eq o1, p + 3, [p + 7])) (h1 : pm_find pm_cL (p + 3) = some (.iconst 1, p + 4, [])) (h2 : pm_find pm_cL (p + 4) = some (.goto o2, p + 7, [p + 8])) (h3 : pm_find pm_cL (p + 7) = some (.iconst 0, p + 8, [])) : pm_ev c sc 2 pm_cL p (pm_lL n) (.inl a :: st) u = pm_ev c sc 2 pm_cL (p + 8) (pm_lL n) (pm_bi (decide (a ≠ 0)) :: st) u := by
  have e0 : pm_ev c sc 2 pm_cL p (pm_lL n) (.inl a :: st) u = if a = 0 then pm_ev c sc 2 pm_cL (p + 7) (pm_lL n) st u else pm_ev c sc 2 pm_cL (p + 3) (pm_lL n) st u := by
    rw [pm_ev_step]
    unfold pm_stp
    rw [h0]
    rfl
  have e1 : pm_ev c sc 2 pm_cL (p + 3) (pm_lL n) st u = pm_ev c sc 2 pm_cL (p + 4) (pm_lL n) (.inl 1 :: st) u := by
    rw [pm_ev_step]
    unfold pm_stp
    rw [h1]
    rfl
  have e2 : ∀ st, pm_ev c sc 2 pm_cL (p + 4) (pm_lL n) st u = pm_ev c sc 2 pm_cL (p + 8) (pm_lL n) st u := by
    intro st
    rw [pm_ev_step]
    unfold pm_stp
    rw [h2]
    rfl
  have e3 : pm_ev c sc 2 pm_cL (p + 7) (pm_lL n) st u = pm_ev c sc 2 pm_cL (p + 8) (pm_lL n) (.inl 0 :: st) u := by
    rw [pm_ev_step]
    unfold pm_stp
    rw [h3]
    rfl
  rw [e0]
  by_cases h : a = 0
  · rw [if_pos h, e3, decide_eq_false (fun q => q h)]
    rfl
  · rw [if_neg h, e1, e2, decide_eq_true h]
    rfl
theorem pm_sw_or {α : Type} {x : Int32} {kg : Nat → α} {d : Nat} : ∀ (ts : List Nat) (v : Nat), pm_sw x kg d ts v = kg d ∨ ∃ t ∈ ts, pm_sw x kg d ts v = kg t
  | [], _ => Or.inl rfl
  | t :: ts, v => by
    unfold pm_sw
    by_cases h : x = Int32.ofNat v
    · rw [if_pos h]
      exact Or.inr ⟨t, List.mem_cons_self, rfl⟩
    · rw [if_neg h]
      rcases pm_sw_or ts (v + 1) with e | ⟨q, hq, e⟩
      · exact Or.inl e
      · exact Or.inr ⟨q, List.mem_cons_of_mem _ hq, e⟩

theorem pm_P48 {n : Nat} {v : Int32} {x x1 : Nat → Nat → Int32} {w w1 : Nat → Nat → Bool} {f f1 : Nat → Nat → Nat} {u2 : pm_S} (hn : n + 5 ≤ sc.1) (hL : sc.1 ≤ 2560) (hc1 : c 48 [pm_r 0, .inl (sc.2 (n + 1)), .inl (sc.2 (n + 2))] (pm_u x w f) = some (some (.inl v), pm_u x1 w1 f1)) (hc2 : c 92 [pm_r 67, .inl (sc.2 (n + 1)), .inl (sc.2 (n + 2))] (pm_u x1 w1 f1) = some (some (.inl v), u2)) : pm_ev c sc 2 pm_cL 127 (pm_lL n) [] (pm_u x w f) = pm_ev c sc 2 pm_cL 713 (pm_lL n) [] u2 := by
  refine (pm_l1 (p := 127) rfl).trans ?_
  refine (pm_rd (p := 128) (j := 1) (j' := 1) rfl rfl rfl rfl rfl rfl (by omega) hL).trans ?_
  refine (pm_rd (p := 133) (j := 2) (j' := 2) rfl rfl rfl rfl rfl rfl (by omega) hL).trans ?_
  refine (pm_cv (p := 138) (ix := 17) (na := 2) (nx := 141) (k := 0) (ci := 0) (mi := 48) (as := [.inl (sc.2 (n + 1)), .inl (sc.2 (n + 2))]) (st := []) rfl rfl rfl rfl rfl hc1).trans ?_
  refine (pm_l2 (p := 141) rfl).trans ?_
  refine (pm_rd (p := 142) (j := 1) (j' := 1) rfl rfl rfl rfl rfl rfl (by omega) hL).trans ?_
  refine (pm_rd (p := 147) (j := 2) (j' := 2) rfl rfl rfl rfl rfl rfl (by omega) hL).trans ?_
  refine (pm_cv (p := 152) (ix := 21) (na := 2) (nx := 155) (k := 67) (ci := 6) (mi := 92) (as := [.inl (sc.2 (n + 1)), .inl (sc.2 (n + 2))]) (st := [.inl v]) rfl rfl rfl rfl rfl hc2).trans ?_
  exact pm_ci (p := 155) (o := 558) (nx := 158) rfl
theorem pm_P49 {n : Nat} {v : Int32} {x x1 : Nat → Nat → Int32} {w w1 : Nat → Nat → Bool} {f f1 : Nat → Nat → Nat} {u2 : pm_S} (hn : n + 5 ≤ sc.1) (hL : sc.1 ≤ 2560) (hc1 : c 49 [pm_r 0, .inl (sc.2 (n + 1)), .inl (sc.2 (n + 2))] (pm_u x w f) = some (some (.inl v), pm_u x1 w1 f1)) (hc2 : c 93 [pm_r 67, .inl (sc.2 (n + 1)), .inl (sc.2 (n + 2))] (pm_u x1 w1 f1) = some (some (.inl v), u2)) : pm_ev c sc 2 pm_cL 160 (pm_lL n) [] (pm_u x w f) = pm_ev c sc 2 pm_cL 713 (pm_lL n) [] u2 := by
  refine (pm_l1 (p := 160) rfl).trans ?_
  refine (pm_rd (p := 161) (j := 1) (j' := 1) rfl rfl rfl rfl rfl rfl (by omega) hL).trans ?_
  refine (pm_rd (p := 166) (j := 2) (j' := 2) rfl rfl rfl rfl rfl rfl (by omega) hL).trans ?_
  refine (pm_cv (p := 171) (ix := 22) (na := 2) (nx := 174) (k := 0) (ci := 0) (mi := 49) (as := [.inl (sc.2 (n + 1)), .inl (sc.2 (n + 2))]) (st := []) rfl rfl rfl rfl rfl hc1).trans ?_
  refine (pm_l2 (p := 174) rfl).trans ?_
  refine (pm_rd (p := 175) (j := 1) (j' := 1) rfl rfl rfl rfl rfl rfl (by omega) hL).trans ?_
  refine (pm_rd (p := 180) (j := 2) (j' := 2) rfl rfl rfl rfl rfl rfl (by omega) hL).trans ?_
  refine (pm_cv (p := 185) (ix := 25) (na := 2) (nx := 188) (k := 67) (ci := 6) (mi := 93) (as := [.inl (sc.2 (n + 1)), .inl (sc.2 (n + 2))]) (st := [.inl v]) rfl rfl rfl rfl rfl hc2).trans ?_
  exact pm_ci (p := 188) (o := 525) (nx := 191) rfl
theorem pm_P50 {n : Nat} {v : Int32} {x x1 : Nat → Nat → Int32} {w w1 : Nat → Nat → Bool} {f f1 : Nat → Nat → Nat} {u2 : pm_S} (hn : n + 5 ≤ sc.1) (hL : sc.1 ≤ 2560) (hc1 : c 50 [pm_r 0, .inl (sc.2 (n + 1))] (pm_u x w f) = some (some (.inl v), pm_u x1 w1 f1)) (hc2 : c 94 [pm_r 67, .inl (sc.2 (n + 1))] (pm_u x1 w1 f1) = some (some (.inl v), u2)) : pm_ev c sc 2 pm_cL 193 (pm_lL n) [] (pm_u x w f) = pm_ev c sc 2 pm_cL 713 (pm_lL n) [] u2 := by
  refine (pm_l1 (p := 193) rfl).trans ?_
  refine (pm_rd (p := 194) (j := 1) (j' := 1) rfl rfl rfl rfl rfl rfl (by omega) hL).trans ?_
  refine (pm_cv (p := 199) (ix := 26) (na := 1) (nx := 202) (k := 0) (ci := 0) (mi := 50) (as := [.inl (sc.2 (n + 1))]) (st := []) rfl rfl rfl rfl rfl hc1).trans ?_
  refine (pm_l2 (p := 202) rfl).trans ?_
  refine (pm_rd (p := 203) (j := 1) (j' := 1) rfl rfl rfl rfl rfl rfl (by omega) hL).trans ?_
  refine (pm_cv (p := 208) (ix := 30) (na := 1) (nx := 211) (k := 67) (ci := 6) (mi := 94) (as := [.inl (sc.2 (n + 1))]) (st := [.inl v]) rfl rfl rfl rfl rfl hc2).trans ?_
  exact pm_ci (p := 211) (o := 502) (nx := 214) rfl
theorem pm_P51 {n : Nat} {v : Bool} {x x1 : Nat → Nat → Int32} {w w1 : Nat → Nat → Bool} {f f1 : Nat → Nat → Nat} {u2 : pm_S} (hn : n + 5 ≤ sc.1) (hL : sc.1 ≤ 2560) (hc1 : c 51 [pm_r 0, pm_bi (decide (sc.2 (n + 1) ≠ 0))] (pm_u x w f) = some (some (pm_b v), pm_u x1 w1 f1)) (hc2 : c 95 [pm_r 67, pm_bi (decide (sc.2 (n + 1) ≠ 0))] (pm_u x1 w1 f1) = some (some (pm_b v), u2)) : pm_ev c sc 2 pm_cL 216 (pm_lL n) [] (pm_u x w f) = pm_ev c sc 2 pm_cL 713 (pm_lL n) [] u2 := by
  refine (pm_l1 (p := 216) rfl).trans ?_
  refine (pm_rd (p := 217) (j := 1) (j' := 1) rfl rfl rfl rfl rfl rfl (by omega) hL).trans ?_
  refine (pm_nz (p := 222) (o1 := 7) (o2 := 4) rfl rfl rfl rfl).trans ?_
  refine (pm_cv (p := 230) (ix := 31) (na := 1) (nx := 233) (k := 0) (ci := 0) (mi := 51) (as := [pm_bi (decide (sc.2 (n + 1) ≠ 0))]) (st := []) rfl rfl rfl rfl rfl hc1).trans ?_
  refine (pm_l2 (p := 233) rfl).trans ?_
  refine (pm_rd (p := 234) (j := 1) (j' := 1) rfl rfl rfl rfl rfl rfl (by omega) hL).trans ?_
  refine (pm_nz (p := 239) (o1 := 7) (o2 := 4) rfl rfl rfl rfl).trans ?_
  refine (pm_cv (p := 247) (ix := 35) (na := 1) (nx := 250) (k := 67) (ci := 6) (mi := 95) (as := [pm_bi (decide (sc.2 (n + 1) ≠ 0))]) (st := [pm_b v]) rfl rfl rfl rfl rfl hc2).trans ?_
  exact pm_cb (p := 250) (o := 463) (nx := 253) rfl
theorem pm_P52 {n : Nat} {v : Int32} {x x1 : Nat → Nat → Int32} {w w1 : Nat → Nat → Bool} {f f1 : Nat → Nat → Nat} {u2 : pm_S} (hn : n + 5 ≤ sc.1) (hL : sc.1 ≤ 2560) (hc1 : c 52 [pm_r 0, .inl (sc.2 (n + 1)), .inl (sc.2 (n + 2)), pm_bi (decide (sc.2 (n + 3) ≠ 0))] (pm_u x w f) = some (some (.inl v), pm_u x1 w1 f1)) (hc2 : c 97 [pm_r 67, .inl (sc.2 (n + 1)), .inl (sc.2 (n + 2)), pm_bi (decide (sc.2 (n + 3) ≠ 0))] (pm_u x1 w1 f1) = some (some (.inl v), u2)) : pm_ev c sc 2 pm_cL 255 (pm_lL n) [] (pm_u x w f) = pm_ev c sc 2 pm_cL 713 (pm_lL n) [] u2 := by
  refine (pm_l1 (p := 255) rfl).trans ?_
  refine (pm_rd (p := 256) (j := 1) (j' := 1) rfl rfl rfl rfl rfl rfl (by omega) hL).trans ?_
  refine (pm_rd (p := 261) (j := 2) (j' := 2) rfl rfl rfl rfl rfl rfl (by omega) hL).trans ?_
  refine (pm_rd (p := 266) (j := 3) (j' := 3) rfl rfl rfl rfl rfl rfl (by omega) hL).trans ?_
  refine (pm_nz (p := 271) (o1 := 7) (o2 := 4) rfl rfl rfl rfl).trans ?_
  refine (pm_cv (p := 279) (ix := 36) (na := 3) (nx := 282) (k := 0) (ci := 0) (mi := 52) (as := [.inl (sc.2 (n + 1)), .inl (sc.2 (n + 2)), pm_bi (decide (sc.2 (n + 3) ≠ 0))]) (st := []) rfl rfl rfl rfl rfl hc1).trans ?_
  refine (pm_l2 (p := 282) rfl).trans ?_
  refine (pm_rd (p := 283) (j := 1) (j' := 1) rfl rfl rfl rfl rfl rfl (by omega) hL).trans ?_
  refine (pm_rd (p := 288) (j := 2) (j' := 2) rfl rfl rfl rfl rfl rfl (by omega) hL).trans ?_
  refine (pm_rd (p := 293) (j := 3) (j' := 3) rfl rfl rfl rfl rfl rfl (by omega) hL).trans ?_
  refine (pm_nz (p := 298) (o1 := 7) (o2 := 4) rfl rfl rfl rfl).trans ?_
  refine (pm_cv (p := 306) (ix := 40) (na := 3) (nx := 309) (k := 67) (ci := 6) (mi := 97) (as := [.inl (sc.2 (n + 1)), .inl (sc.2 (n + 2)), pm_bi (decide (sc.2 (n + 3) ≠ 0))]) (st := [.inl v]) rfl rfl rfl rfl rfl hc2).trans ?_
  exact pm_ci (p := 309) (o := 404) (nx := 312) rfl
theorem pm_P53 {n : Nat} {v : Int32} {x x1 : Nat → Nat → Int32} {w w1 : Nat → Nat → Bool} {f f1 : Nat → Nat → Nat} {u2 : pm_S} (hn : n + 5 ≤ sc.1) (hL : sc.1 ≤ 2560) (hc1 : c 53 [pm_r 0, .inl (sc.2 (n + 1)), .inl (sc.2 (n + 2)), pm_bi (decide (sc.2 (n + 3) ≠ 0))] (pm_u x w f) = some (some (.inl v), pm_u x1 w1 f1)) (hc2 : c 98 [pm_r 67, .inl (sc.2 (n + 1)), .inl (sc.2 (n + 2)), pm_bi (decide (sc.2 (n + 3) ≠ 0))] (pm_u x1 w1 f1) = some (some (.inl v), u2)) : pm_ev c sc 2 pm_cL 314 (pm_lL n) [] (pm_u x w f) = pm_ev c sc 2 pm_cL 713 (pm_lL n) [] u2 := by
  refine (pm_l1 (p := 314) rfl).trans ?_
  refine (pm_rd (p := 315) (j := 1) (j' := 1) rfl rfl rfl rfl rfl rfl (by omega) hL).trans ?_
  refine (pm_rd (p := 320) (j := 2) (j' := 2) rfl rfl rfl rfl rfl rfl (by omega) hL).trans ?_
  refine (pm_rd (p := 325) (j := 3) (j' := 3) rfl rfl rfl rfl rfl rfl (by omega) hL).trans ?_
  refine (pm_nz (p := 330) (o1 := 7) (o2 := 4) rfl rfl rfl rfl).trans ?_
  refine (pm_cv (p := 338) (ix := 41) (na := 3) (nx := 341) (k := 0) (ci := 0) (mi := 53) (as := [.inl (sc.2 (n + 1)), .inl (sc.2 (n + 2)), pm_bi (decide (sc.2 (n + 3) ≠ 0))]) (st := []) rfl rfl rfl rfl rfl hc1).trans ?_
  refine (pm_l2 (p := 341) rfl).trans ?_
  refine (pm_rd (p := 342) (j := 1) (j' := 1) rfl rfl rfl rfl rfl rfl (by omega) hL).trans ?_
  refine (pm_rd (p := 347) (j := 2) (j' := 2) rfl rfl rfl rfl rfl rfl (by omega) hL).trans ?_
  refine (pm_rd (p := 352) (j := 3) (j' := 3) rfl rfl rfl rfl rfl rfl (by omega) hL).trans ?_
  refine (pm_nz (p := 357) (o1 := 7) (o2 := 4) rfl rfl rfl rfl).trans ?_
  refine (pm_cv (p := 365) (ix := 44) (na := 3) (nx := 368) (k := 67) (ci := 6) (mi := 98) (as := [.inl (sc.2 (n + 1)), .inl (sc.2 (n + 2)), pm_bi (decide (sc.2 (n + 3) ≠ 0))]) (st := [.inl v]) rfl rfl rfl rfl rfl hc2).trans ?_
  exact pm_ci (p := 368) (o := 345) (nx := 371) rfl
theorem pm_P54 {n : Nat} {v : Int32} {x x1 : Nat → Nat → Int32} {w w1 : Nat → Nat → Bool} {f f1 : Nat → Nat → Nat} {u2 : pm_S} (hn : n + 5 ≤ sc.1) (hL : sc.1 ≤ 2560) (hc1 : c 54 [pm_r 0, .inl (sc.2 (n + 1)), .inl (sc.2 (n + 2)), .inl (sc.2 (n + 3))] (pm_u x w f) = some (some (.inl v), pm_u x1 w1 f1)) (hc2 : c 99 [pm_r 67, .inl (sc.2 (n + 1)), .inl (sc.2 (n + 2)), .inl (sc.2 (n + 3))] (pm_u x1 w1 f1) = some (some (.inl v), u2)) : pm_ev c sc 2 pm_cL 373 (pm_lL n) [] (pm_u x w f) = pm_ev c sc 2 pm_cL 713 (pm_lL n) [] u2 := by
  refine (pm_l1 (p := 373) rfl).trans ?_
  refine (pm_rd (p := 374) (j := 1) (j' := 1) rfl rfl rfl rfl rfl rfl (by omega) hL).trans ?_
  refine (pm_rd (p := 379) (j := 2) (j' := 2) rfl rfl rfl rfl rfl rfl (by omega) hL).trans ?_
  refine (pm_rd (p := 384) (j := 3) (j' := 3) rfl rfl rfl rfl rfl rfl (by omega) hL).trans ?_
  refine (pm_cv (p := 389) (ix := 45) (na := 3) (nx := 392) (k := 0) (ci := 0) (mi := 54) (as := [.inl (sc.2 (n + 1)), .inl (sc.2 (n + 2)), .inl (sc.2 (n + 3))]) (st := []) rfl rfl rfl rfl rfl hc1).trans ?_
  refine (pm_l2 (p := 392) rfl).trans ?_
  refine (pm_rd (p := 393) (j := 1) (j' := 1) rfl rfl rfl rfl rfl rfl (by omega) hL).trans ?_
  refine (pm_rd (p := 398) (j := 2) (j' := 2) rfl rfl rfl rfl rfl rfl (by omega) hL).trans ?_
  refine (pm_rd (p := 403) (j := 3) (j' := 3) rfl rfl rfl rfl rfl rfl (by omega) hL).trans ?_
  refine (pm_cv (p := 408) (ix := 49) (na := 3) (nx := 411) (k := 67) (ci := 6) (mi := 99) (as := [.inl (sc.2 (n + 1)), .inl (sc.2 (n + 2)), .inl (sc.2 (n + 3))]) (st := [.inl v]) rfl rfl rfl rfl rfl hc2).trans ?_
  exact pm_ci (p := 411) (o := 302) (nx := 414) rfl
theorem pm_P55 {n : Nat} {v : Int32} {x x1 : Nat → Nat → Int32} {w w1 : Nat → Nat → Bool} {f f1 : Nat → Nat → Nat} {u2 : pm_S} (hn : n + 5 ≤ sc.1) (hL : sc.1 ≤ 2560) (hc1 : c 55 [pm_r 0, .inl (sc.2 (n + 1)), .inl (sc.2 (n + 2)), .inl (sc.2 (n + 3)), .inl (sc.2 (n + 4))] (pm_u x w f) = some (some (.inl v), pm_u x1 w1 f1)) (hc2 : c 100 [pm_r 67, .inl (sc.2 (n + 1)), .inl (sc.2 (n + 2)), .inl (sc.2 (n + 3)), .inl (sc.2 (n + 4))] (pm_u x1 w1 f1) = some (some (.inl v), u2)) : pm_ev c sc 2 pm_cL 416 (pm_lL n) [] (pm_u x w f) = pm_ev c sc 2 pm_cL 713 (pm_lL n) [] u2 := by
  refine (pm_l1 (p := 416) rfl).trans ?_
  refine (pm_rd (p := 417) (j := 1) (j' := 1) rfl rfl rfl rfl rfl rfl (by omega) hL).trans ?_
  refine (pm_rd (p := 422) (j := 2) (j' := 2) rfl rfl rfl rfl rfl rfl (by omega) hL).trans ?_
  refine (pm_rd (p := 427) (j := 3) (j' := 3) rfl rfl rfl rfl rfl rfl (by omega) hL).trans ?_
  refine (pm_rd (p := 432) (j := 4) (j' := 4) rfl rfl rfl rfl rfl rfl (by omega) hL).trans ?_
  refine (pm_cv (p := 437) (ix := 50) (na := 4) (nx := 440) (k := 0) (ci := 0) (mi := 55) (as := [.inl (sc.2 (n + 1)), .inl (sc.2 (n + 2)), .inl (sc.2 (n + 3)), .inl (sc.2 (n + 4))]) (st := []) rfl rfl rfl rfl rfl hc1).trans ?_
  refine (pm_l2 (p := 440) rfl).trans ?_
  refine (pm_rd (p := 441) (j := 1) (j' := 1) rfl rfl rfl rfl rfl rfl (by omega) hL).trans ?_
  refine (pm_rd (p := 446) (j := 2) (j' := 2) rfl rfl rfl rfl rfl rfl (by omega) hL).trans ?_
  refine (pm_rd (p := 451) (j := 3) (j' := 3) rfl rfl rfl rfl rfl rfl (by omega) hL).trans ?_
  refine (pm_rd (p := 456) (j := 4) (j' := 4) rfl rfl rfl rfl rfl rfl (by omega) hL).trans ?_
  refine (pm_cv (p := 461) (ix := 54) (na := 4) (nx := 464) (k := 67) (ci := 6) (mi := 100) (as := [.inl (sc.2 (n + 1)), .inl (sc.2 (n + 2)), .inl (sc.2 (n + 3)), .inl (sc.2 (n + 4))]) (st := [.inl v]) rfl rfl rfl rfl rfl hc2).trans ?_
  exact pm_ci (p := 464) (o := 249) (nx := 467) rfl
theorem pm_P56 {n : Nat} {v : Int32} {x x1 : Nat → Nat → Int32} {w w1 : Nat → Nat → Bool} {f f1 : Nat → Nat → Nat} {u2 : pm_S} (hn : n + 5 ≤ sc.1) (hL : sc.1 ≤ 2560) (hc1 : c 56 [pm_r 0, .inl (sc.2 (n + 1)), .inl (sc.2 (n + 2))] (pm_u x w f) = some (some (.inl v), pm_u x1 w1 f1)) (hc2 : c 103 [pm_r 67, .inl (sc.2 (n + 1)), .inl (sc.2 (n + 2))] (pm_u x1 w1 f1) = some (some (.inl v), u2)) : pm_ev c sc 2 pm_cL 469 (pm_lL n) [] (pm_u x w f) = pm_ev c sc 2 pm_cL 713 (pm_lL n) [] u2 := by
  refine (pm_l1 (p := 469) rfl).trans ?_
  refine (pm_rd (p := 470) (j := 1) (j' := 1) rfl rfl rfl rfl rfl rfl (by omega) hL).trans ?_
  refine (pm_rd (p := 475) (j := 2) (j' := 2) rfl rfl rfl rfl rfl rfl (by omega) hL).trans ?_
  refine (pm_cv (p := 480) (ix := 55) (na := 2) (nx := 483) (k := 0) (ci := 0) (mi := 56) (as := [.inl (sc.2 (n + 1)), .inl (sc.2 (n + 2))]) (st := []) rfl rfl rfl rfl rfl hc1).trans ?_
  refine (pm_l2 (p := 483) rfl).trans ?_
  refine (pm_rd (p := 484) (j := 1) (j' := 1) rfl rfl rfl rfl rfl rfl (by omega) hL).trans ?_
  refine (pm_rd (p := 489) (j := 2) (j' := 2) rfl rfl rfl rfl rfl rfl (by omega) hL).trans ?_
  refine (pm_cv (p := 494) (ix := 58) (na := 2) (nx := 497) (k := 67) (ci := 6) (mi := 103) (as := [.inl (sc.2 (n + 1)), .inl (sc.2 (n + 2))]) (st := [.inl v]) rfl rfl rfl rfl rfl hc2).trans ?_
  exact pm_ci (p := 497) (o := 216) (nx := 500) rfl
theorem pm_P57 {n : Nat} {v : Int32} {x x1 : Nat → Nat → Int32} {w w1 : Nat → Nat → Bool} {f f1 : Nat → Nat → Nat} {u2 : pm_S} (hn : n + 5 ≤ sc.1) (hL : sc.1 ≤ 2560) (hc1 : c 57 [pm_r 0, .inl (sc.2 (n + 1)), .inl (sc.2 (n + 2))] (pm_u x w f) = some (some (.inl v), pm_u x1 w1 f1)) (hc2 : c 104 [pm_r 67, .inl (sc.2 (n + 1)), .inl (sc.2 (n + 2))] (pm_u x1 w1 f1) = some (some (.inl v), u2)) : pm_ev c sc 2 pm_cL 502 (pm_lL n) [] (pm_u x w f) = pm_ev c sc 2 pm_cL 713 (pm_lL n) [] u2 := by
  refine (pm_l1 (p := 502) rfl).trans ?_
  refine (pm_rd (p := 503) (j := 1) (j' := 1) rfl rfl rfl rfl rfl rfl (by omega) hL).trans ?_
  refine (pm_rd (p := 508) (j := 2) (j' := 2) rfl rfl rfl rfl rfl rfl (by omega) hL).trans ?_
  refine (pm_cv (p := 513) (ix := 59) (na := 2) (nx := 516) (k := 0) (ci := 0) (mi := 57) (as := [.inl (sc.2 (n + 1)), .inl (sc.2 (n + 2))]) (st := []) rfl rfl rfl rfl rfl hc1).trans ?_
  refine (pm_l2 (p := 516) rfl).trans ?_
  refine (pm_rd (p := 517) (j := 1) (j' := 1) rfl rfl rfl rfl rfl rfl (by omega) hL).trans ?_
  refine (pm_rd (p := 522) (j := 2) (j' := 2) rfl rfl rfl rfl rfl rfl (by omega) hL).trans ?_
  refine (pm_cv (p := 527) (ix := 62) (na := 2) (nx := 530) (k := 67) (ci := 6) (mi := 104) (as := [.inl (sc.2 (n + 1)), .inl (sc.2 (n + 2))]) (st := [.inl v]) rfl rfl rfl rfl rfl hc2).trans ?_
  exact pm_ci (p := 530) (o := 183) (nx := 533) rfl
theorem pm_P58 {n : Nat} {v : Int32} {x x1 : Nat → Nat → Int32} {w w1 : Nat → Nat → Bool} {f f1 : Nat → Nat → Nat} {u2 : pm_S} (hn : n + 5 ≤ sc.1) (hL : sc.1 ≤ 2560) (hc1 : c 58 [pm_r 0, .inl (sc.2 (n + 1)), .inl (sc.2 (n + 2))] (pm_u x w f) = some (some (.inl v), pm_u x1 w1 f1)) (hc2 : c 105 [pm_r 67, .inl (sc.2 (n + 1)), .inl (sc.2 (n + 2))] (pm_u x1 w1 f1) = some (some (.inl v), u2)) : pm_ev c sc 2 pm_cL 535 (pm_lL n) [] (pm_u x w f) = pm_ev c sc 2 pm_cL 713 (pm_lL n) [] u2 := by
  refine (pm_l1 (p := 535) rfl).trans ?_
  refine (pm_rd (p := 536) (j := 1) (j' := 1) rfl rfl rfl rfl rfl rfl (by omega) hL).trans ?_
  refine (pm_rd (p := 541) (j := 2) (j' := 2) rfl rfl rfl rfl rfl rfl (by omega) hL).trans ?_
  refine (pm_cv (p := 546) (ix := 63) (na := 2) (nx := 549) (k := 0) (ci := 0) (mi := 58) (as := [.inl (sc.2 (n + 1)), .inl (sc.2 (n + 2))]) (st := []) rfl rfl rfl rfl rfl hc1).trans ?_
  refine (pm_l2 (p := 549) rfl).trans ?_
  refine (pm_rd (p := 550) (j := 1) (j' := 1) rfl rfl rfl rfl rfl rfl (by omega) hL).trans ?_
  refine (pm_rd (p := 555) (j := 2) (j' := 2) rfl rfl rfl rfl rfl rfl (by omega) hL).trans ?_
  refine (pm_cv (p := 560) (ix := 66) (na := 2) (nx := 563) (k := 67) (ci := 6) (mi := 105) (as := [.inl (sc.2 (n + 1)), .inl (sc.2 (n + 2))]) (st := [.inl v]) rfl rfl rfl rfl rfl hc2).trans ?_
  exact pm_ci (p := 563) (o := 150) (nx := 566) rfl
theorem pm_P59 {n : Nat} {v : Int32} {x x1 : Nat → Nat → Int32} {w w1 : Nat → Nat → Bool} {f f1 : Nat → Nat → Nat} {u2 : pm_S} (hn : n + 5 ≤ sc.1) (hL : sc.1 ≤ 2560) (hc1 : c 59 [pm_r 0, .inl (sc.2 (n + 1)), .inl (sc.2 (n + 2)), .inl (sc.2 (n + 3))] (pm_u x w f) = some (some (.inl v), pm_u x1 w1 f1)) (hc2 : c 106 [pm_r 67, .inl (sc.2 (n + 1)), .inl (sc.2 (n + 2)), .inl (sc.2 (n + 3))] (pm_u x1 w1 f1) = some (some (.inl v), u2)) : pm_ev c sc 2 pm_cL 568 (pm_lL n) [] (pm_u x w f) = pm_ev c sc 2 pm_cL 713 (pm_lL n) [] u2 := by
  refine (pm_l1 (p := 568) rfl).trans ?_
  refine (pm_rd (p := 569) (j := 1) (j' := 1) rfl rfl rfl rfl rfl rfl (by omega) hL).trans ?_
  refine (pm_rd (p := 574) (j := 2) (j' := 2) rfl rfl rfl rfl rfl rfl (by omega) hL).trans ?_
  refine (pm_rd (p := 579) (j := 3) (j' := 3) rfl rfl rfl rfl rfl rfl (by omega) hL).trans ?_
  refine (pm_cv (p := 584) (ix := 67) (na := 3) (nx := 587) (k := 0) (ci := 0) (mi := 59) (as := [.inl (sc.2 (n + 1)), .inl (sc.2 (n + 2)), .inl (sc.2 (n + 3))]) (st := []) rfl rfl rfl rfl rfl hc1).trans ?_
  refine (pm_l2 (p := 587) rfl).trans ?_
  refine (pm_rd (p := 588) (j := 1) (j' := 1) rfl rfl rfl rfl rfl rfl (by omega) hL).trans ?_
  refine (pm_rd (p := 593) (j := 2) (j' := 2) rfl rfl rfl rfl rfl rfl (by omega) hL).trans ?_
  refine (pm_rd (p := 598) (j := 3) (j' := 3) rfl rfl rfl rfl rfl rfl (by omega) hL).trans ?_
  refine (pm_cv (p := 603) (ix := 70) (na := 3) (nx := 606) (k := 67) (ci := 6) (mi := 106) (as := [.inl (sc.2 (n + 1)), .inl (sc.2 (n + 2)), .inl (sc.2 (n + 3))]) (st := [.inl v]) rfl rfl rfl rfl rfl hc2).trans ?_
  exact pm_ci (p := 606) (o := 107) (nx := 609) rfl
theorem pm_P60 {n : Nat} {v : Int32} {x x1 : Nat → Nat → Int32} {w w1 : Nat → Nat → Bool} {f f1 : Nat → Nat → Nat} {u2 : pm_S} (hn : n + 5 ≤ sc.1) (hL : sc.1 ≤ 2560) (hc1 : c 60 [pm_r 0, .inl (sc.2 (n + 1)), .inl (sc.2 (n + 2)), .inl (sc.2 (n + 3))] (pm_u x w f) = some (some (.inl v), pm_u x1 w1 f1)) (hc2 : c 107 [pm_r 67, .inl (sc.2 (n + 1)), .inl (sc.2 (n + 2)), .inl (sc.2 (n + 3))] (pm_u x1 w1 f1) = some (some (.inl v), u2)) : pm_ev c sc 2 pm_cL 611 (pm_lL n) [] (pm_u x w f) = pm_ev c sc 2 pm_cL 713 (pm_lL n) [] u2 := by
  refine (pm_l1 (p := 611) rfl).trans ?_
  refine (pm_rd (p := 612) (j := 1) (j' := 1) rfl rfl rfl rfl rfl rfl (by omega) hL).trans ?_
  refine (pm_rd (p := 617) (j := 2) (j' := 2) rfl rfl rfl rfl rfl rfl (by omega) hL).trans ?_
  refine (pm_rd (p := 622) (j := 3) (j' := 3) rfl rfl rfl rfl rfl rfl (by omega) hL).trans ?_
  refine (pm_cv (p := 627) (ix := 71) (na := 3) (nx := 630) (k := 0) (ci := 0) (mi := 60) (as := [.inl (sc.2 (n + 1)), .inl (sc.2 (n + 2)), .inl (sc.2 (n + 3))]) (st := []) rfl rfl rfl rfl rfl hc1).trans ?_
  refine (pm_l2 (p := 630) rfl).trans ?_
  refine (pm_rd (p := 631) (j := 1) (j' := 1) rfl rfl rfl rfl rfl rfl (by omega) hL).trans ?_
  refine (pm_rd (p := 636) (j := 2) (j' := 2) rfl rfl rfl rfl rfl rfl (by omega) hL).trans ?_
  refine (pm_rd (p := 641) (j := 3) (j' := 3) rfl rfl rfl rfl rfl rfl (by omega) hL).trans ?_
  refine (pm_cv (p := 646) (ix := 74) (na := 3) (nx := 649) (k := 67) (ci := 6) (mi := 107) (as := [.inl (sc.2 (n + 1)), .inl (sc.2 (n + 2)), .inl (sc.2 (n + 3))]) (st := [.inl v]) rfl rfl rfl rfl rfl hc2).trans ?_
  exact pm_ci (p := 649) (o := 64) (nx := 652) rfl
theorem pm_P61 {n : Nat} {v : Int32} {x x1 : Nat → Nat → Int32} {w w1 : Nat → Nat → Bool} {f f1 : Nat → Nat → Nat} {u2 : pm_S} (hn : n + 5 ≤ sc.1) (hL : sc.1 ≤ 2560) (hc1 : c 61 [pm_r 0, .inl (sc.2 (n + 1)), .inl (sc.2 (n + 2))] (pm_u x w f) = some (some (.inl v), pm_u x1 w1 f1)) (hc2 : c 108 [pm_r 67, .inl (sc.2 (n + 1)), .inl (sc.2 (n + 2))] (pm_u x1 w1 f1) = some (some (.inl v), u2)) : pm_ev c sc 2 pm_cL 654 (pm_lL n) [] (pm_u x w f) = pm_ev c sc 2 pm_cL 713 (pm_lL n) [] u2 := by
  refine (pm_l1 (p := 654) rfl).trans ?_
  refine (pm_rd (p := 655) (j := 1) (j' := 1) rfl rfl rfl rfl rfl rfl (by omega) hL).trans ?_
  refine (pm_rd (p := 660) (j := 2) (j' := 2) rfl rfl rfl rfl rfl rfl (by omega) hL).trans ?_
  refine (pm_cv (p := 665) (ix := 75) (na := 2) (nx := 668) (k := 0) (ci := 0) (mi := 61) (as := [.inl (sc.2 (n + 1)), .inl (sc.2 (n + 2))]) (st := []) rfl rfl rfl rfl rfl hc1).trans ?_
  refine (pm_l2 (p := 668) rfl).trans ?_
  refine (pm_rd (p := 669) (j := 1) (j' := 1) rfl rfl rfl rfl rfl rfl (by omega) hL).trans ?_
  refine (pm_rd (p := 674) (j := 2) (j' := 2) rfl rfl rfl rfl rfl rfl (by omega) hL).trans ?_
  refine (pm_cv (p := 679) (ix := 78) (na := 2) (nx := 682) (k := 67) (ci := 6) (mi := 108) (as := [.inl (sc.2 (n + 1)), .inl (sc.2 (n + 2))]) (st := [.inl v]) rfl rfl rfl rfl rfl hc2).trans ?_
  exact pm_ci (p := 682) (o := 31) (nx := 685) rfl
theorem pm_P62 {n : Nat} {v : Bool} {x x1 : Nat → Nat → Int32} {w w1 : Nat → Nat → Bool} {f f1 : Nat → Nat → Nat} {u2 : pm_S} (hn : n + 5 ≤ sc.1) (hL : sc.1 ≤ 2560) (hc1 : c 62 [pm_r 0] (pm_u x w f) = some (some (pm_b v), pm_u x1 w1 f1)) (hc2 : c 109 [pm_r 67] (pm_u x1 w1 f1) = some (some (pm_b v), u2)) : pm_ev c sc 2 pm_cL 687 (pm_lL n) [] (pm_u x w f) = pm_ev c sc 2 pm_cL 713 (pm_lL n) [] u2 := by
  refine (pm_l1 (p := 687) rfl).trans ?_
  refine (pm_cv (p := 688) (ix := 79) (na := 0) (nx := 691) (k := 0) (ci := 0) (mi := 62) (as := []) (st := []) rfl rfl rfl rfl rfl hc1).trans ?_
  refine (pm_l2 (p := 691) rfl).trans ?_
  refine (pm_cv (p := 692) (ix := 83) (na := 0) (nx := 695) (k := 67) (ci := 6) (mi := 109) (as := []) (st := [pm_b v]) rfl rfl rfl rfl rfl hc2).trans ?_
  exact pm_cb (p := 695) (o := 18) (nx := 698) rfl
theorem pm_P63 {n : Nat} {v : Int32} {x x1 : Nat → Nat → Int32} {w w1 : Nat → Nat → Bool} {f f1 : Nat → Nat → Nat} {u2 : pm_S} (hn : n + 5 ≤ sc.1) (hL : sc.1 ≤ 2560) (hc1 : c 63 [pm_r 0] (pm_u x w f) = some (some (.inl v), pm_u x1 w1 f1)) (hc2 : c 110 [pm_r 67] (pm_u x1 w1 f1) = some (some (.inl v), u2)) : pm_ev c sc 2 pm_cL 700 (pm_lL n) [] (pm_u x w f) = pm_ev c sc 2 pm_cL 713 (pm_lL n) [] u2 := by
  refine (pm_l1 (p := 700) rfl).trans ?_
  refine (pm_cv (p := 701) (ix := 84) (na := 0) (nx := 704) (k := 0) (ci := 0) (mi := 63) (as := []) (st := []) rfl rfl rfl rfl rfl hc1).trans ?_
  refine (pm_l2 (p := 704) rfl).trans ?_
  refine (pm_cv (p := 705) (ix := 88) (na := 0) (nx := 708) (k := 67) (ci := 6) (mi := 110) (as := []) (st := [.inl v]) rfl rfl rfl rfl rfl hc2).trans ?_
  exact pm_ci (p := 708) (o := 5) (nx := 711) rfl
theorem pm_P47 {n : Nat} {x x1 : Nat → Nat → Int32} {w w1 : Nat → Nat → Bool} {f f1 : Nat → Nat → Nat} {u2 : pm_S} (hc1 : c 47 [pm_r 0] (pm_u x w f) = some (none, pm_u x1 w1 f1)) (hc2 : c 74 [pm_r 67] (pm_u x1 w1 f1) = some (none, u2)) : pm_ev c sc 2 pm_cL 116 (pm_lL n) [] (pm_u x w f) = pm_ev c sc 2 pm_cL 713 (pm_lL n) [] u2 := by
  refine (pm_l1 (p := 116) rfl).trans ?_
  refine (pm_cv (p := 117) (ix := 13) (na := 0) (nx := 120) (k := 0) (ci := 0) (mi := 47) (as := []) (st := []) rfl rfl rfl rfl rfl hc1).trans ?_
  refine (pm_l2 (p := 120) rfl).trans ?_
  refine (pm_cv (p := 121) (ix := 16) (na := 0) (nx := 124) (k := 67) (ci := 6) (mi := 74) (as := []) (st := []) rfl rfl rfl rfl rfl hc2).trans ?_
  exact (pm_ev_step _ _ _ _).trans rfl
end PML

/-! What my small machine does in one step, the model does: instructions that don't touch the memory. -/
abbrev pm_lvv (z b : Nat) (lv : pm_Lv) : List (Nat × Value) := lv.map (fun q => (q.1, pm_vl z b q.2))
theorem pm_lget_mem : ∀ (lv : pm_Lv) (i : Nat) (v : pm_V), pm_lget lv i = some v → (i, v) ∈ lv
  | [], _, _, h => by cases h
  | (k, w) :: t, i, v, h => by
    unfold pm_lget at h
    cases hk : Nat.beq k i with
    | true =>
      rw [hk] at h
      have e1 := pm_beq hk
      have e2 : w = v := Option.some.inj h
      subst e1; subst e2
      exact List.mem_cons_self
    | false =>
      rw [hk] at h
      exact List.mem_cons_of_mem _ (pm_lget_mem t i v h)
theorem pm_at {ls : Array Slot} {nL z b i : Nat} {lv : pm_Lv} {v : pm_V} (hl : lv_has ls nL (pm_lvv z b lv)) (h : pm_lget lv i = some v) : ls[i]? = some (.val (pm_vl z b v)) := hl.2.2 (i, pm_vl z b v) (List.mem_map.mpr ⟨(i, v), pm_lget_mem lv i v h, rfl⟩)
theorem pm_ldel_eq (z b i : Nat) : ∀ lv : pm_Lv, (pm_lvv z b lv).filter (fun q => !(q.1 == i) && !(q.1 + 1 == i && q.2.category == 2)) = pm_lvv z b (pm_ldel lv i)
  | [] => rfl
  | (k, w) :: t => by
    have ih := pm_ldel_eq z b i t
    have hc : ((pm_vl z b w).category == 2) = false := by rw [pm_cat]; rfl
    show List.filter _ ((k, pm_vl z b w) :: pm_lvv z b t) = pm_lvv z b (bif Nat.beq k i then pm_ldel t i else (k, w) :: pm_ldel t i)
    rw [List.filter_cons]
    cases hk : Nat.beq k i with
    | true =>
      have e1 := pm_beq hk
      subst e1
      simp only [beq_self_eq_true, Bool.not_true, Bool.false_and, cond_true]
      rw [if_neg (by decide)]
      exact ih
    | false =>
      have e1 : (k == i) = false := by
        cases hb : (k == i) with
        | false => rfl
        | true =>
          have := eq_of_beq hb
          subst this
          rw [Nat.beq_refl] at hk
          cases hk
      simp only [e1, hc, Bool.and_false, Bool.not_false, Bool.and_self, cond_false]
      rw [if_pos trivial, ih]
      rfl
theorem pm_lset_eq (z b i : Nat) (v : pm_V) (lv : pm_Lv) : (i, pm_vl z b v) :: (pm_lvv z b lv).filter (fun q => !(q.1 == i) && !(q.1 + 1 == i && q.2.category == 2)) = pm_lvv z b (pm_lset lv i v) := by
  rw [pm_ldel_eq]
  rfl
theorem pm_ld_spec {v : Option pm_V} {kg : pm_V → Prop} (h : pm_ld v kg False) : ∃ w, v = some w ∧ kg w ∧ ∀ z b, ∃ y, pm_vl z b w = .int y := by
  rcases v with _ | x | w | q
  · exact h.elim
  · exact ⟨_, rfl, h, fun _ _ => ⟨x, rfl⟩⟩
  · exact ⟨_, rfl, h, fun _ _ => ⟨_, rfl⟩⟩
  · exact h.elim
theorem pm_la_spec {v : Option pm_V} {kg : pm_V → Prop} (h : pm_la v kg False) : ∃ w, v = some w ∧ kg w ∧ ∀ z b, pm_vl z b w = .null ∨ ∃ y, pm_vl z b w = .ref y := by
  rcases v with _ | x | w | (_ | q) | q
  · exact h.elim
  · exact h.elim
  · exact h.elim
  · exact ⟨_, rfl, h, fun _ _ => Or.inl rfl⟩
  · exact ⟨_, rfl, h, fun _ _ => Or.inr ⟨_, rfl⟩⟩
  · exact ⟨_, rfl, h, fun _ _ => Or.inr ⟨_, rfl⟩⟩
theorem pm_si_spec {st : List pm_V} {kg : pm_V → List pm_V → Prop} (h : pm_si st kg False) : ∃ w st', st = w :: st' ∧ kg w st' ∧ ∀ z b, ∃ y, pm_vl z b w = .int y := by
  rcases st with _ | ⟨x | w | q, st⟩
  · exact h.elim
  · exact ⟨_, _, rfl, h, fun _ _ => ⟨x, rfl⟩⟩
  · exact ⟨_, _, rfl, h, fun _ _ => ⟨_, rfl⟩⟩
  · exact h.elim
theorem pm_sa_spec {st : List pm_V} {kg : pm_V → List pm_V → Prop} (h : pm_sa st kg False) : ∃ w st', st = w :: st' ∧ kg w st' ∧ ∀ z b, pm_vl z b w = .null ∨ ∃ y, pm_vl z b w = .ref y := by
  rcases st with _ | ⟨x | w | (_ | q) | q, st⟩
  · exact h.elim
  · exact h.elim
  · exact h.elim
  · exact ⟨_, _, rfl, h, fun _ _ => Or.inl rfl⟩
  · exact ⟨_, _, rfl, h, fun _ _ => Or.inr ⟨_, rfl⟩⟩
  · exact ⟨_, _, rfl, h, fun _ _ => Or.inr ⟨_, rfl⟩⟩
theorem pm_op2_spec {st : List pm_V} {kg : Int32 → Int32 → List pm_V → Prop} (h : pm_op2 st kg False) : ∃ x y st', st = .inl y :: .inl x :: st' ∧ kg x y st' := by
  rcases st with _ | ⟨y | q, _ | ⟨x | q2, st⟩⟩
  · exact h.elim
  · exact h.elim
  · exact ⟨_, _, _, rfl, h⟩
  · exact h.elim
  · exact h.elim
  · exact h.elim
  · exact h.elim
theorem pm_obj_spec {n : Nat} {st : List pm_V} {kg : Nat → Nat → List pm_V → Prop} (h : pm_obj n st kg False) : ∃ k ci st', st = .inr (.inr (.inl (some k))) :: st' ∧ pm_cls n k = some ci ∧ kg k ci st' := by
  rcases st with _ | ⟨x | w | (_ | k) | q, st⟩
  · exact h.elim
  · exact h.elim
  · exact h.elim
  · exact h.elim
  · change (match pm_cls n k with | some ci => kg k ci st | none => False) at h
    cases hc : pm_cls n k with
    | none => rw [hc] at h; exact h.elim
    | some ci => rw [hc] at h; exact ⟨k, ci, st, rfl, hc, h⟩
  · exact h.elim
def pm_E (G : pm_G) (sc : pm_Sc) (M : pm_Mt) (d : Nat) (p : Program) (R : Room) (s : State) (m : MethodId) (args : Array Value) (meth : Method) (c : Code) : Prop :=
  p.tables.exec = Jvm.exec ∧ c.code = M.2.1 ∧ c.maxLocals = M.2.2.1 ∧ s.vm.findClass M.1.cls = some m.cls ∧ (∀ w ∈ pm_ga, w.before args s = true) ∧ pm_K G s ∧ pm_X G sc s s.heap ∧ (M.1.name = "<init>" → meth.name = "<init>") ∧ d + 1 ≤ R.frames ∧ 30 * (d + 1) ≤ R.locals
def pm_PW (p : Program) (l : Launch) (e : Env) (R : Room) (s : State) (m : MethodId) (args : Array Value) (below : List Frame) (meth : Method) (c : Code) (Q : State → Prop) (G : pm_G) (nL n0 : Nat) (pc : Nat) (lv : pm_Lv) (st : List pm_V) (u : pm_S) : Prop :=
  ∀ (H : Heap) (locs : List Loc) (ls : Array Slot), lv_has ls nL (pm_lvv G.2.2.1 G.2.2.2 lv) → pm_H G u H → va_S (pm_A G) s.heap H locs → n0 ≤ u.1 → W p l e R s m args below meth c H locs (u.1 - n0) (pm_sl u.1 - pm_sl n0) Q (F0 m pc ls (st.map (pm_vl G.2.2.1 G.2.2.2)))
def pm_ri (rk : Nat) : Jvm.ClassFile.Instr := match rk with
  | 0 => .return_
  | 1 => .ireturn
  | 2 => .ireturn
  | _ => .areturn
def pm_shp (rk : Nat) (v : Option pm_V) : Prop := match rk, v with
  | 0, none => True
  | 1, some (.inl _) => True
  | 2, some (.inr (.inl _)) => True
  | 3, some (.inr (.inr (.inl _))) => True
  | _, _ => False
def pm_PE (p : Program) (l : Launch) (e : Env) (R : Room) (s : State) (m : MethodId) (args : Array Value) (below : List Frame) (meth : Method) (c : Code) (Q : State → Prop) (G : pm_G) (cc : ByteArray) (rk n0 : Nat) (r : pm_Rs) : Prop :=
  ∀ (H : Heap) (locs : List Loc) (ls : Array Slot) (pc : Nat), pm_H G r.2 H → va_S (pm_A G) s.heap H locs → n0 ≤ r.2.1 → pm_shp rk r.1 → decode cc pc = .ok (pm_ri rk, 1) → W p l e R s m args below meth c H locs (r.2.1 - n0) (pm_sl r.2.1 - pm_sl n0) Q (F0 m pc ls (r.1.map (pm_vl G.2.2.1 G.2.2.2)).toList)
section PMW
variable {p : Program} {l : Launch} {e : Env} {R : Room} {s : State} {m : MethodId} {args : Array Value} {below : List Frame} {meth : Method} {c : Code} {Q : State → Prop}
variable {G : pm_G} {sc : pm_Sc} {M : pm_Mt} {d n0 nf : Nat} {MT : List pm_Mt} {cal : Nat → List pm_V → pm_S → Option pm_Rs} {pc nx : Nat} {ax : List Nat} {lv : pm_Lv} {st : List pm_V} {u : pm_S}
/-- what goes on behind a step -/
abbrev pm_kk (p : Program) (l : Launch) (e : Env) (R : Room) (s : State) (m : MethodId) (args : Array Value) (below : List Frame) (meth : Method) (c : Code) (Q : State → Prop) (G : pm_G) (nL n0 nf : Nat) : Nat → pm_Lv → List pm_V → pm_S → Prop := fun pc lv st u => u.1 ≤ nf ∧ pm_PW p l e R s m args below meth c Q G nL n0 pc lv st u
theorem pm_s_push {len : Nat} {v : Int32} (row : ∀ {H : Heap} {locs : List Loc} {cells slots : Nat} {ls : Array Slot} {rest : List Value}, W p l e R s m args below meth c H locs cells slots Q (F0 m (pc + len) ls (.int v :: rest)) → W p l e R s m args below meth c H locs cells slots Q (F0 m pc ls rest))
    (h : pm_kk p l e R s m args below meth c Q G M.2.2.1 n0 nf (pc + len) lv (.inl v :: st) u) : pm_PW p l e R s m args below meth c Q G M.2.2.1 n0 pc lv st u := fun H locs ls hl hH hS hn => row (h.2 H locs ls hl hH hS hn)
theorem pm_s_br {cd : Jvm.ClassFile.Cond} {off : Int} {tgt : Nat} {x : Int32} (E : pm_E G sc M d p R s m args meth c) (hd : decode M.2.1 pc = .ok (.ifCond cd off, 3)) (ht : (pc : Int) + off = (tgt : Int))
    (h : pm_br cd x (pm_kk p l e R s m args below meth c Q G M.2.2.1 n0 nf tgt lv st u) (pm_kk p l e R s m args below meth c Q G M.2.2.1 n0 nf (pc + 3) lv st u)) {v : pm_V} (hv : pm_vl G.2.2.1 G.2.2.2 v = .int x) : pm_PW p l e R s m args below meth c Q G M.2.2.1 n0 pc lv (v :: st) u := by
  obtain ⟨hx, hb, -⟩ := E
  intro H locs ls hl hH hS hn
  rw [List.map_cons, hv]
  cases cd
  · refine lv_if_eq hx hb hd ht (fun q => ?_) (fun q => ?_)
    · exact (by rw [show pm_br .eq x _ _ = _ from if_pos q] at h; exact h.2 H locs ls hl hH hS hn)
    · exact (by rw [show pm_br .eq x _ _ = _ from if_neg q] at h; exact h.2 H locs ls hl hH hS hn)
  · refine lv_if_ne hx hb hd ht (fun q => ?_) (fun q => ?_)
    · exact (by rw [show pm_br .ne x _ _ = _ from if_neg q] at h; exact h.2 H locs ls hl hH hS hn)
    · exact (by rw [show pm_br .ne x _ _ = _ from if_pos q] at h; exact h.2 H locs ls hl hH hS hn)
  · refine lv_if_lt hx hb hd ht (fun q => ?_) (fun q => ?_)
    · exact (by rw [show pm_br .lt x _ _ = _ from if_pos q] at h; exact h.2 H locs ls hl hH hS hn)
    · exact (by rw [show pm_br .lt x _ _ = _ from if_neg q] at h; exact h.2 H locs ls hl hH hS hn)
  · refine lv_if_ge hx hb hd ht (fun q => ?_) (fun q => ?_)
    · exact (by rw [show pm_br .ge x _ _ = _ from if_pos q] at h; exact h.2 H locs ls hl hH hS hn)
    · exact (by rw [show pm_br .ge x _ _ = _ from if_neg q] at h; exact h.2 H locs ls hl hH hS hn)
  · refine lv_if_gt hx hb hd ht (fun q => ?_) (fun q => ?_)
    · exact (by rw [show pm_br .gt x _ _ = _ from if_pos q] at h; exact h.2 H locs ls hl hH hS hn)
    · exact (by rw [show pm_br .gt x _ _ = _ from if_neg q] at h; exact h.2 H locs ls hl hH hS hn)
  · refine lv_if_le hx hb hd ht (fun q => ?_) (fun q => ?_)
    · exact (by rw [show pm_br .le x _ _ = _ from if_pos q] at h; exact h.2 H locs ls hl hH hS hn)
    · exact (by rw [show pm_br .le x _ _ = _ from if_neg q] at h; exact h.2 H locs ls hl hH hS hn)
theorem pm_s_br2 {cd : Jvm.ClassFile.Cond} {off : Int} {tgt : Nat} {x y : Int32} (E : pm_E G sc M d p R s m args meth c) (hd : decode M.2.1 pc = .ok (.if_icmp cd off, 3)) (ht : (pc : Int) + off = (tgt : Int))
    (h : pm_br2 cd x y (pm_kk p l e R s m args below meth c Q G M.2.2.1 n0 nf tgt lv st u) (pm_kk p l e R s m args below meth c Q G M.2.2.1 n0 nf (pc + 3) lv st u)) {v w : pm_V} (hv : pm_vl G.2.2.1 G.2.2.2 v = .int x) (hw : pm_vl G.2.2.1 G.2.2.2 w = .int y) : pm_PW p l e R s m args below meth c Q G M.2.2.1 n0 pc lv (w :: v :: st) u := by
  obtain ⟨hx, hb, -⟩ := E
  intro H locs ls hl hH hS hn
  rw [List.map_cons, List.map_cons, hv, hw]
  cases cd
  · refine lv_icmp_eq hx hb hd ht (fun q => ?_) (fun q => ?_)
    · exact (by rw [show pm_br2 .eq x y _ _ = _ from if_pos q] at h; exact h.2 H locs ls hl hH hS hn)
    · exact (by rw [show pm_br2 .eq x y _ _ = _ from if_neg q] at h; exact h.2 H locs ls hl hH hS hn)
  · refine lv_icmp_ne hx hb hd ht (fun q => ?_) (fun q => ?_)
    · exact (by rw [show pm_br2 .ne x y _ _ = _ from if_neg q] at h; exact h.2 H locs ls hl hH hS hn)
    · exact (by rw [show pm_br2 .ne x y _ _ = _ from if_pos q] at h; exact h.2 H locs ls hl hH hS hn)
  · refine lv_icmp_lt hx hb hd ht (fun q => ?_) (fun q => ?_)
    · exact (by rw [show pm_br2 .lt x y _ _ = _ from if_pos q] at h; exact h.2 H locs ls hl hH hS hn)
    · exact (by rw [show pm_br2 .lt x y _ _ = _ from if_neg q] at h; exact h.2 H locs ls hl hH hS hn)
  · refine lv_icmp_ge hx hb hd ht (fun q => ?_) (fun q => ?_)
    · exact (by rw [show pm_br2 .ge x y _ _ = _ from if_pos q] at h; exact h.2 H locs ls hl hH hS hn)
    · exact (by rw [show pm_br2 .ge x y _ _ = _ from if_neg q] at h; exact h.2 H locs ls hl hH hS hn)
  · refine lv_icmp_gt hx hb hd ht (fun q => ?_) (fun q => ?_)
    · exact (by rw [show pm_br2 .gt x y _ _ = _ from if_pos q] at h; exact h.2 H locs ls hl hH hS hn)
    · exact (by rw [show pm_br2 .gt x y _ _ = _ from if_neg q] at h; exact h.2 H locs ls hl hH hS hn)
  · refine lv_icmp_le hx hb hd ht (fun q => ?_) (fun q => ?_)
    · exact (by rw [show pm_br2 .le x y _ _ = _ from if_pos q] at h; exact h.2 H locs ls hl hH hS hn)
    · exact (by rw [show pm_br2 .le x y _ _ = _ from if_neg q] at h; exact h.2 H locs ls hl hH hS hn)
/-- a branch on a boolean is one on 0 or 1 -/
theorem pm_brb_br {cd : Jvm.ClassFile.Cond} {x : Bool} {A B : Prop} (h : pm_brb cd x A B False) : pm_br cd (bif x then 1 else 0) A B := by
  cases cd <;> cases x <;> first | exact h.elim | exact h | (simp [pm_brb] at h; simp [pm_br]; exact h)
theorem pm_brb2_br {cd : Jvm.ClassFile.Cond} {x y : Bool} {A B : Prop} (h : pm_brb2 cd x y A B False) : pm_br2 cd (bif x then 1 else 0) (bif y then 1 else 0) A B := by
  cases cd <;> cases x <;> cases y <;> first | exact h.elim | exact h | (simp [pm_brb2] at h; simp [pm_br2]; exact h)
theorem pm_sw_spec {x : Int32} {K : Nat → Prop} {t0 : Nat} : ∀ (ts : List Nat) (v : Nat), v + ts.length < 1000 → pm_sw x K t0 ts v → ((∃ i t, ts[i]? = some t ∧ x = Int32.ofNat (v + i) ∧ K t) ∨ ((∀ i, i < ts.length → x ≠ Int32.ofNat (v + i)) ∧ K t0))
  | [], v, _, h => Or.inr ⟨fun i hi => absurd hi (Nat.not_lt_zero i), h⟩
  | t :: ts, v, hv, h => by
    have hv' : v + 1 + ts.length < 1000 := by simp at hv; omega
    by_cases q : x = Int32.ofNat v
    · rw [show pm_sw x K t0 (t :: ts) v = _ from if_pos q] at h
      exact Or.inl ⟨0, t, rfl, q, h⟩
    · rw [show pm_sw x K t0 (t :: ts) v = _ from if_neg q] at h
      rcases pm_sw_spec ts (v + 1) hv' h with ⟨i, t', h1, h2, h3⟩ | ⟨h1, h2⟩
      · exact Or.inl ⟨i + 1, t', h1, by rw [h2]; congr 1; omega, h3⟩
      · refine Or.inr ⟨fun i hi => ?_, h2⟩
        rcases i with _ | i
        · exact q
        · have := h1 i (by simp at hi; omega)
          rw [show v + (i + 1) = v + 1 + i by omega]
          exact this
def pm_mem (ins : Jvm.ClassFile.Instr) : Bool := match ins with
  | .getfield _ => true
  | .putfield _ => true
  | .iaload => true
  | .baload => true
  | .aaload => true
  | .iastore => true
  | .bastore => true
  | .aastore => true
  | .arraylength => true
  | .new _ => true
  | .newarray _ => true
  | .anewarray _ => true
  | .invokevirtual _ => true
  | .invokespecial _ => true
  | .invokestatic _ => true
  | _ => false
/-- the instructions that don't touch the memory -/
theorem pm_s_plain {ins : Jvm.ClassFile.Instr} {rk : Nat} (E : pm_E G sc M d p R s m args meth c) (hd : decode M.2.1 pc = .ok (ins, pm_len ins (nx - pc))) (hnx : nx = pc + pm_len ins (nx - pc)) (ho : pm_oki MT M pc ins ax = true) (hrk : M.2.2.2.2.2 = rk) (hu : u.1 ≤ nf)
    (hp : pm_mem ins = false)
    (h : pm_do cal sc rk ins nx ax lv st u (pm_kk p l e R s m args below meth c Q G M.2.2.1 n0 nf) (pm_PE p l e R s m args below meth c Q G M.2.1 rk n0) False) : pm_PW p l e R s m args below meth c Q G M.2.2.1 n0 pc lv st u := by
  have E0 := E
  obtain ⟨hx, hb, -, hown, hga, -⟩ := E
  cases ins
  case iconst n => simp only [pm_len] at hnx hd; subst hnx; exact pm_s_push (fun k => lv_iconst hx hb hd rfl k) h
  case bipush n => simp only [pm_len] at hnx hd; subst hnx; exact pm_s_push (fun k => lv_bipush hx hb hd (of_decide_eq_true ho) k) h
  case sipush n => simp only [pm_len] at hnx hd; subst hnx; exact pm_s_push (fun k => lv_sipush hx hb hd (of_decide_eq_true ho) k) h
  case ldc i => simp only [pm_len] at hnx hd; subst hnx; exact pm_s_push (fun k => lv_ldc hx hb hown (hga _ (pm_in ho)) hd k) h
  case iload_n k =>
    simp only [pm_len] at hnx hd; subst hnx
    obtain ⟨w, hw, hk, hy⟩ := pm_ld_spec (by simpa only [pm_do] using h)
    obtain ⟨y, hy⟩ := hy G.2.2.1 G.2.2.2
    intro H locs ls hl hH hS hn
    have k1 := hk.2 H locs ls hl hH hS hn
    rw [List.map_cons, hy] at k1
    exact lv_iload_n hx hb hd rfl (by rw [pm_at hl hw, hy]) k1
  case iload i =>
    simp only [pm_len] at hnx hd; subst hnx
    obtain ⟨w, hw, hk, hy⟩ := pm_ld_spec (by simpa only [pm_do] using h)
    obtain ⟨y, hy⟩ := hy G.2.2.1 G.2.2.2
    intro H locs ls hl hH hS hn
    have k1 := hk.2 H locs ls hl hH hS hn
    rw [List.map_cons, hy] at k1
    exact lv_iload hx hb hd (by rw [pm_at hl hw, hy]) k1
  case aload_n k =>
    simp only [pm_len] at hnx hd; subst hnx
    obtain ⟨w, hw, hk, hy⟩ := pm_la_spec (by simpa only [pm_do] using h)
    intro H locs ls hl hH hS hn
    have k1 := hk.2 H locs ls hl hH hS hn
    rcases hy G.2.2.1 G.2.2.2 with hy | ⟨y, hy⟩
    · rw [List.map_cons, hy] at k1
      exact lv_aload_nN hx hb hd rfl (by rw [pm_at hl hw, hy]) k1
    · rw [List.map_cons, hy] at k1
      exact lv_aload_n hx hb hd rfl (by rw [pm_at hl hw, hy]) k1
  case aload i =>
    simp only [pm_len] at hnx hd; subst hnx
    obtain ⟨w, hw, hk, hy⟩ := pm_la_spec (by simpa only [pm_do] using h)
    intro H locs ls hl hH hS hn
    have k1 := hk.2 H locs ls hl hH hS hn
    rcases hy G.2.2.1 G.2.2.2 with hy | ⟨y, hy⟩
    · rw [List.map_cons, hy] at k1
      exact lv_aloadN hx hb hd (by rw [pm_at hl hw, hy]) k1
    · rw [List.map_cons, hy] at k1
      exact lv_aload hx hb hd (by rw [pm_at hl hw, hy]) k1
  case istore_n k =>
    simp only [pm_len] at hnx hd; subst hnx
    obtain ⟨w, st', rfl, hk, hy⟩ := pm_si_spec (by simpa only [pm_do] using h)
    obtain ⟨y, hy⟩ := hy G.2.2.1 G.2.2.2
    intro H locs ls hl hH hS hn
    rw [List.map_cons, hy]
    exact lv_istore_n hx hb hd rfl hl (pm_blt ho) (by rw [← hy]; exact pm_lset_eq _ _ _ _ _) (fun ls' hl' => hk.2 H locs ls' hl' hH hS hn)
  case istore i =>
    simp only [pm_len] at hnx hd; subst hnx
    obtain ⟨w, st', rfl, hk, hy⟩ := pm_si_spec (by simpa only [pm_do] using h)
    obtain ⟨y, hy⟩ := hy G.2.2.1 G.2.2.2
    intro H locs ls hl hH hS hn
    rw [List.map_cons, hy]
    exact lv_istore hx hb hd hl (pm_blt ho) (by rw [← hy]; exact pm_lset_eq _ _ _ _ _) (fun ls' hl' => hk.2 H locs ls' hl' hH hS hn)
  case astore_n k =>
    simp only [pm_len] at hnx hd; subst hnx
    obtain ⟨w, st', rfl, hk, hy⟩ := pm_sa_spec (by simpa only [pm_do] using h)
    intro H locs ls hl hH hS hn
    rcases hy G.2.2.1 G.2.2.2 with hy | ⟨y, hy⟩
    · rw [List.map_cons, hy]
      exact lv_astore_nN hx hb hd rfl hl (pm_blt ho) (by rw [← hy]; exact pm_lset_eq _ _ _ _ _) (fun ls' hl' => hk.2 H locs ls' hl' hH hS hn)
    · rw [List.map_cons, hy]
      exact lv_astore_n hx hb hd rfl hl (pm_blt ho) (by rw [← hy]; exact pm_lset_eq _ _ _ _ _) (fun ls' hl' => hk.2 H locs ls' hl' hH hS hn)
  case astore i =>
    simp only [pm_len] at hnx hd; subst hnx
    obtain ⟨w, st', rfl, hk, hy⟩ := pm_sa_spec (by simpa only [pm_do] using h)
    intro H locs ls hl hH hS hn
    rcases hy G.2.2.1 G.2.2.2 with hy | ⟨y, hy⟩
    · rw [List.map_cons, hy]
      exact lv_astoreN hx hb hd hl (pm_blt ho) (by rw [← hy]; exact pm_lset_eq _ _ _ _ _) (fun ls' hl' => hk.2 H locs ls' hl' hH hS hn)
    · rw [List.map_cons, hy]
      exact lv_astore hx hb hd hl (pm_blt ho) (by rw [← hy]; exact pm_lset_eq _ _ _ _ _) (fun ls' hl' => hk.2 H locs ls' hl' hH hS hn)
  case iinc i n =>
    simp only [pm_len] at hnx hd; subst hnx
    change (match pm_lget lv i with | some (.inl x) => pm_kk p l e R s m args below meth c Q G M.2.2.1 n0 nf (pc + 3) (pm_lset lv i (.inl (x + Int32.ofInt n))) st u | _ => False) at h
    cases hw : pm_lget lv i with
    | none => rw [hw] at h; exact h.elim
    | some w =>
      rw [hw] at h
      rcases w with x | w
      · intro H locs ls hl hH hS hn
        obtain ⟨k, hk⟩ := List.getElem?_of_mem (show (i, Value.int x) ∈ pm_lvv G.2.2.1 G.2.2.2 lv from List.mem_map.mpr ⟨(i, .inl x), pm_lget_mem lv i _ hw, rfl⟩)
        exact lv_iinc hx hb hd hl hk rfl (pm_blt ho) (pm_lset_eq _ _ i (.inl (x + Int32.ofInt n)) lv) (fun ls' hl' => h.2 H locs ls' hl' hH hS hn)
      · exact h.elim
  case iadd => simp only [pm_len] at hnx hd; subst hnx; obtain ⟨x, y, st', rfl, hk⟩ := pm_op2_spec h; exact fun H locs ls hl hH hS hn => lv_iadd hx hb hd (hk.2 H locs ls hl hH hS hn)
  case isub => simp only [pm_len] at hnx hd; subst hnx; obtain ⟨x, y, st', rfl, hk⟩ := pm_op2_spec h; exact fun H locs ls hl hH hS hn => lv_isub hx hb hd (hk.2 H locs ls hl hH hS hn)
  case imul => simp only [pm_len] at hnx hd; subst hnx; obtain ⟨x, y, st', rfl, hk⟩ := pm_op2_spec h; exact fun H locs ls hl hH hS hn => lv_imul hx hb hd (hk.2 H locs ls hl hH hS hn)
  case iand => simp only [pm_len] at hnx hd; subst hnx; obtain ⟨x, y, st', rfl, hk⟩ := pm_op2_spec h; exact fun H locs ls hl hH hS hn => lv_iand hx hb hd (hk.2 H locs ls hl hH hS hn)
  case ior => simp only [pm_len] at hnx hd; subst hnx; obtain ⟨x, y, st', rfl, hk⟩ := pm_op2_spec h; exact fun H locs ls hl hH hS hn => lv_ior hx hb hd (hk.2 H locs ls hl hH hS hn)
  case ishl => simp only [pm_len] at hnx hd; subst hnx; obtain ⟨x, y, st', rfl, hk⟩ := pm_op2_spec h; exact fun H locs ls hl hH hS hn => lv_ishl hx hb hd (hk.2 H locs ls hl hH hS hn)
  case ishr => simp only [pm_len] at hnx hd; subst hnx; obtain ⟨x, y, st', rfl, hk⟩ := pm_op2_spec h; exact fun H locs ls hl hH hS hn => lv_ishr hx hb hd (hk.2 H locs ls hl hH hS hn)
  case idiv =>
    simp only [pm_len] at hnx hd; subst hnx
    obtain ⟨x, y, st', rfl, hk⟩ := pm_op2_spec h
    by_cases hy : y = 0
    · rw [if_pos hy] at hk; exact hk.elim
    · rw [if_neg hy] at hk; exact fun H locs ls hl hH hS hn => lv_idiv hx hb hd hy (hk.2 H locs ls hl hH hS hn)
  case irem =>
    simp only [pm_len] at hnx hd; subst hnx
    obtain ⟨x, y, st', rfl, hk⟩ := pm_op2_spec h
    by_cases hy : y = 0
    · rw [if_pos hy] at hk; exact hk.elim
    · rw [if_neg hy] at hk; exact fun H locs ls hl hH hS hn => lv_irem hx hb hd hy (hk.2 H locs ls hl hH hS hn)
  case dup =>
    simp only [pm_len] at hnx hd; subst hnx
    rcases st with _ | ⟨v, st⟩
    · exact h.elim
    · exact fun H locs ls hl hH hS hn => lv_dup hx hb hd (pm_cat _ _ v) (h.2 H locs ls hl hH hS hn)
  case dup2 =>
    simp only [pm_len] at hnx hd; subst hnx
    rcases st with _ | ⟨v, _ | ⟨w, st⟩⟩
    · exact h.elim
    · exact h.elim
    · exact fun H locs ls hl hH hS hn => lv_dup2_11 hx hb hd (pm_cat _ _ v) (pm_cat _ _ w) (h.2 H locs ls hl hH hS hn)
  case goto off => exact fun H locs ls hl hH hS hn => lv_goto hx hb hd (of_decide_eq_true ho) (h.2 H locs ls hl hH hS hn)
  case ifCond cd off =>
    simp only [pm_len] at hnx hd; subst hnx
    rcases st with _ | ⟨x | w | q, st⟩
    · exact h.elim
    · exact pm_s_br E0 hd (of_decide_eq_true ho) h rfl
    · exact pm_s_br E0 hd (of_decide_eq_true ho) (pm_brb_br h) rfl
    · exact h.elim
  case if_icmp cd off =>
    simp only [pm_len] at hnx hd; subst hnx
    rcases st with _ | ⟨y | y | q, _ | ⟨x | x | q2, st⟩⟩
    · exact h.elim
    · exact h.elim
    · exact pm_s_br2 E0 hd (of_decide_eq_true ho) h rfl rfl
    · exact h.elim
    · exact h.elim
    · exact h.elim
    · exact h.elim
    · exact pm_s_br2 E0 hd (of_decide_eq_true ho) (pm_brb2_br h) rfl rfl
    · exact h.elim
    · exact h.elim
    · exact h.elim
    · exact h.elim
    · exact h.elim
  case tableswitch dd lo hi offs =>
    rcases ax with _ | ⟨t0, ts⟩
    · exact h.elim
    · rcases st with _ | ⟨x | w, st⟩
      · exact h.elim
      · simp only [pm_oki, Bool.and_eq_true, decide_eq_true_eq] at ho
        obtain ⟨⟨⟨⟨hlo, hhi⟩, hdf⟩, hof⟩, hts⟩ := ho
        have hts' := pm_blt hts
        intro H locs ls hl hH hS hn
        rcases pm_sw_spec ts 0 (by omega) h with ⟨i, t, h1, h2, h3⟩ | ⟨h1, h2⟩
        · have hi : i < ts.length := (List.getElem?_eq_some_iff.mp h1).1
          have hxi : x.toInt = (i : Int) := by rw [h2, Nat.zero_add]; exact nI_toInt (by omega)
          have ho2 : (offs.toList.map (fun o => (pc : Int) + o))[i]? = some (t : Int) := by rw [hof, List.getElem?_map, h1]; rfl
          rw [List.getElem?_map] at ho2
          cases hq : offs.toList[i]? with
          | none => rw [hq] at ho2; cases ho2
          | some o =>
            rw [hq] at ho2
            refine lv_tableIn hx hb hd (by rw [hxi, hlo]; omega) (by rw [hxi]; omega) (off := o) ?_ (Option.some.inj ho2) (h3.2 H locs ls hl hH hS hn)
            rw [hxi, hlo, show ((i : Int) - 0).toNat = i by omega, ← Array.getElem?_toList]
            exact hq
        · refine lv_tableOut hx hb hd ?_ hdf (h2.2 H locs ls hl hH hS hn)
          by_cases hneg : x.toInt < 0
          · exact Or.inl (by rw [hlo]; exact hneg)
          · refine Or.inr ?_
            by_cases hbig : hi < x.toInt
            · exact hbig
            · exfalso
              have := h1 x.toInt.toNat (by omega)
              apply this
              rw [Nat.zero_add]
              apply Int32.toInt_inj.mp
              rw [show (Int32.ofNat x.toInt.toNat).toInt = (x.toInt.toNat : Int) from nI_toInt (by omega)]
              omega
      · exact h.elim
  case ireturn =>
    have hd1 : decode M.2.1 pc = .ok (.ireturn, 1) := hd
    rcases rk with _ | _ | _ | rk
    · exact h.elim
    · rcases st with _ | ⟨x | w, _ | ⟨v2, st⟩⟩
      · exact h.elim
      · exact fun H locs ls hl hH hS hn => h H locs ls pc hH hS hn trivial hd1
      · exact h.elim
      · exact h.elim
      · exact h.elim
    · rcases st with _ | ⟨x | w | q, _ | ⟨v2, st⟩⟩
      · exact h.elim
      · change (if x = 0 then _ else if x = 1 then _ else False) at h
        intro H locs ls hl hH hS hn
        by_cases h0 : x = 0
        · rw [if_pos h0] at h
          subst h0
          exact h H locs ls pc hH hS hn trivial hd1
        · rw [if_neg h0] at h
          by_cases h1 : x = 1
          · rw [if_pos h1] at h
            subst h1
            exact h H locs ls pc hH hS hn trivial hd1
          · rw [if_neg h1] at h
            exact h.elim
      · exact h.elim
      · exact fun H locs ls hl hH hS hn => h H locs ls pc hH hS hn trivial hd1
      · exact h.elim
      · exact h.elim
      · exact h.elim
    · exact h.elim
  case areturn =>
    rcases rk with _ | _ | _ | _ | rk
    · exact h.elim
    · exact h.elim
    · exact h.elim
    · rcases st with _ | ⟨x | w | q | q, _ | ⟨v2, st⟩⟩
      · exact h.elim
      · exact h.elim
      · exact h.elim
      · exact h.elim
      · exact h.elim
      · exact fun H locs ls hl hH hS hn => h H locs ls pc hH hS hn trivial hd
      · exact h.elim
      · exact h.elim
      · exact h.elim
    · exact h.elim
  case return_ =>
    rcases rk with _ | rk
    · rcases st with _ | ⟨v, st⟩
      · exact fun H locs ls hl hH hS hn => h H locs ls pc hH hS hn trivial hd
      · exact h.elim
    · exact h.elim
  all_goals first | exact h.elim | cases hp
end PMW

/-! The words, the contract, and what a row of code must keep to. -/
def pm_ga : List Cond := pm_tb.filter goodWord
def pm_has (w : Cond) : Bool := decide (w ∈ pm_tb) && goodWord w
theorem pm_in {w : Cond} (h : pm_has w = true) : w ∈ pm_ga := by
  simp only [pm_has, Bool.and_eq_true, decide_eq_true_eq] at h
  exact List.mem_filter.mpr h
theorem pm_goodIn {ws : List Cond} (h : ∀ w ∈ ws, w ∈ pm_ga) : GoodIn pm_ga ws := fun w hw => ⟨h w hw, good_of_word (List.mem_filter.mp (h w hw)).2⟩
def pm_isN : Cond → Bool
  | .methodLinkNest _ _ _ _ => true
  | .declares _ => true
  | _ => false
def pm_hasN (w : Cond) : Bool := decide (w ∈ pm_tb) && pm_isN w
def pm_tys (c : Nat → ClassId) : List (ClassId × FieldType) := [(c 0, .int), (c 1, .boolean), (c 2, .object "PlatformDoors$Frame"), (c 3, .object "PlatformDoors$Leaf")]
def pm_K (G : pm_G) (U : State) : Prop := va_K G.1 pm_cl (pm_tys G.2.1) U ∧ (∀ w, pm_hasN w = true → va_Nw w U) ∧ va_AO "PlatformDoors$Frame" U ∧ va_AO "PlatformDoors$Leaf" U
theorem pm_isN_cases {w : Cond} (h : pm_isN w = true) : (∃ a i x b, w = .methodLinkNest a i x b) ∨ ∃ x, w = .declares x := by
  cases w <;> first | (exact Or.inl ⟨_, _, _, _, rfl⟩) | (exact Or.inr ⟨_, rfl⟩) | (exact absurd h (by decide)) | (simp [pm_isN] at h)
theorem pm_K.moved {G : pm_G} {s U : State} (hW : s.WarmedH U.vm) (h : pm_K G s) : pm_K G U := by
  refine ⟨va_K.moved hW.alike h.1, fun w hw => ?_, va_AO.moved hW.alike h.2.2.1, va_AO.moved hW.alike h.2.2.2⟩
  have h1 := h.2.1 w hw
  simp only [pm_hasN, Bool.and_eq_true] at hw
  rcases pm_isN_cases hw.2 with ⟨a, i, x, b, rfl⟩ | ⟨x, rfl⟩
  · exact va_Nw.warmM hW h1
  · exact va_Nw.warmD hW h1
theorem pm_K.same {G : pm_G} {u U : State} (hv : u.vm = U.vm) (h : pm_K G u) : pm_K G U := by
  have ha : u.vm.Alike U.vm := by rw [hv]; exact Vm.Alike.refl _
  refine ⟨va_K.moved ha h.1, fun w hw => ?_, va_AO.moved ha h.2.2.1, va_AO.moved ha h.2.2.2⟩
  have h1 := h.2.1 w hw
  simp only [pm_hasN, Bool.and_eq_true] at hw
  rcases pm_isN_cases hw.2 with ⟨a, i, x, b, rfl⟩ | ⟨x, rfl⟩
  · exact va_Nw.same rfl hv h1
  · exact va_Nw.same rfl hv h1
/-- the script lies below all places -/
def pm_X (G : pm_G) (sc : pm_Sc) (U : State) (H : Heap) : Prop := va_X G.2.2.2 sc.1 sc.2 U H ∧ G.2.2.2 < G.2.2.1
def pm_rm (d mc ms : Nat) : Room := { frames := d + 1, cells := mc, slots := ms, locals := 30 * (d + 1) }
def pm_sz (k : Nat) : Nat := match pm_kx k with
  | .inl ci => (pm_fs0 ci).length
  | .inr a => a.2
def pm_sl : Nat → Nat
  | 0 => 0
  | n + 1 => pm_sl n + pm_sz n
theorem pm_sl_le {a b : Nat} (h : a ≤ b) : pm_sl a ≤ pm_sl b := by
  induction h with
  | refl => exact Nat.le_refl _
  | step _ ih => exact Nat.le_trans ih (Nat.le_add_right _ _)
abbrev pm_Mt : Type := MethodName × ByteArray × Nat × Option FieldType × pm_Cd × Nat
def pm_Q (G : pm_G) (v : Option Value) (u : pm_S) : Array Value → State → Outcome → State → Prop := fun _ st oc t => oc = .returned v ∧ pm_H G u t.heap ∧ va_F (pm_A G) st t
def pm_Pc (G : pm_G) (sc : pm_Sc) (av : List pm_V) (u : pm_S) : Array Value → State → Prop := va_Pc (av.map (pm_vl G.2.2.1 G.2.2.2)) (fun U => pm_H G u U.heap ∧ pm_K G U ∧ pm_X G sc U U.heap)
/-- the contract: from memory u, with the arguments av, the method M answers v and leaves memory u' -/
def pm_M (l : Launch) (G : pm_G) (sc : pm_Sc) (d : Nat) (M : pm_Mt) (av : List pm_V) (u : pm_S) (v : Option pm_V) (u' : pm_S) : Prop :=
  Met l M.1 (.code M.1 M.2.1 M.2.2.1 M.2.2.2.1 :: pm_ga) (pm_rm d (u'.1 - u.1) (pm_sl u'.1 - pm_sl u.1)) (pm_Pc G sc av u) (pm_Q G (v.map (pm_vl G.2.2.1 G.2.2.2)) u') (u'.1 - u.1) (pm_sl u'.1 - pm_sl u.1) (pm_A G)
theorem pm_blind (G : pm_G) (sc : pm_Sc) (av : List pm_V) (u : pm_S) : FrameBlind (pm_Pc G sc av u) := fun a U g mk h => ⟨h.1, h.2.1, pm_K.same (u := U) (U := U.calling g mk a) rfl h.2.2.1, va_X.moved (u := U) (U := U.calling g mk a) (Vm.Alike.refl U.vm) h.2.2.2.1, h.2.2.2.2⟩
/-! rows of code: what is checked of each, by computation -/
def pm_len (ins : Jvm.ClassFile.Instr) (d : Nat) : Nat := match ins with
  | .bipush _ => 2
  | .iload _ => 2
  | .aload _ => 2
  | .istore _ => 2
  | .astore _ => 2
  | .ldc _ => 2
  | .newarray _ => 2
  | .sipush _ => 3
  | .iinc _ _ => 3
  | .ifCond _ _ => 3
  | .if_icmp _ _ => 3
  | .goto _ => 3
  | .getfield _ => 3
  | .putfield _ => 3
  | .new _ => 3
  | .anewarray _ => 3
  | .invokevirtual _ => 3
  | .invokespecial _ => 3
  | .invokestatic _ => 3
  | .tableswitch _ _ _ _ => d
  | _ => 1
def pm_refs : List String := ["PlatformDoors$Train", "PlatformDoors$Platform"]
def pm_fok (own : String) (i ci j ty : Nat) : Bool := match pm_fd[ci]? with
  | some (_, fs) => (match fs[j]? with
    | some (D, nm, ds, _, t) => Nat.beq t ty && (pm_has (.fieldLink own i D nm ds) || pm_refs.any (fun ref => pm_has (.sameField ref D nm ds) && pm_has (.fieldLink own i ref nm ds)))
    | none => false)
  | none => false
def pm_fin (own : String) (ini : Bool) (ci j : Nat) : Bool := match (pm_fs0 ci)[j]? with
  | some (D, _, _, fin, _) => !fin || (ini && decide (D = own))
  | none => false
def pm_desc (y : MethodName) (na : Nat) : Bool := decide (y.cls ≠ "java/lang/invoke/MethodHandle") && decide (y.cls ≠ "java/lang/invoke/VarHandle") && decide ((parseMethodDescriptor y.desc).map (fun d => d.parameters.length) = some na)
def pm_host : String := "PlatformDoors"
/-- the callee: its code's word is there, its arguments fit -/
def pm_okc (MT : List pm_Mt) (mi na : Nat) (k : pm_Mt → Bool) : Bool := match MT[mi]? with
  | some M => pm_has (.code M.1 M.2.1 M.2.2.1 M.2.2.2.1) && pm_has (.initialized M.1.cls) && Nat.ble na M.2.2.1 && Nat.ble M.2.2.1 11 && k M
  | none => false
def pm_okv (own : String) (i na : Nat) (xc C : String) (y : MethodName) : Bool :=
  pm_desc y na && pm_has (.instanceMethod y) && (
    (decide (xc = y.cls) && decide (y.cls = C) && pm_has (.selects C y y) && (pm_has (.methodLink own i y) || pm_hasN (.methodLinkNest own i y pm_host))) ||
    (pm_has (.methodLink own i ⟨xc, y.name, y.desc⟩) && pm_has (.selects C ⟨xc, y.name, y.desc⟩ y) && (pm_has (.sameMethod xc y.cls y.name y.desc) ||
      (pm_has (.sameMethod xc xc y.name y.desc) && pm_hasN (.declares ⟨xc, y.name, y.desc⟩) && pm_desc ⟨xc, y.name, y.desc⟩ na))))
def pm_okp (MT : List pm_Mt) (own : String) (i na xn : Nat) : List Nat → Bool
  | ci :: mi :: t => Nat.blt ci 7 && pm_okc MT mi (na + 1) (fun M => pm_okv own i na (pm_cn xn) (pm_cn ci) M.1) && pm_okp MT own i na xn t
  | _ => true
def pm_oki (MT : List pm_Mt) (M : pm_Mt) (pc : Nat) (ins : Jvm.ClassFile.Instr) (ax : List Nat) : Bool := match ins with
  | .bipush n => decide ((Int8.ofInt n).toInt32 = Int32.ofInt n)
  | .sipush n => decide ((Int16.ofInt n).toInt32 = Int32.ofInt n)
  | .ldc i => pm_has (.constant M.1.cls i (pm_con ax))
  | .istore_n k => Nat.blt k.val M.2.2.1
  | .istore k => Nat.blt k M.2.2.1
  | .astore_n k => Nat.blt k.val M.2.2.1
  | .astore k => Nat.blt k M.2.2.1
  | .iinc k _ => Nat.blt k M.2.2.1
  | .ifCond _ off => decide ((pc : Int) + off = ((ax.headD 0 : Nat) : Int))
  | .if_icmp _ off => decide ((pc : Int) + off = ((ax.headD 0 : Nat) : Int))
  | .goto off => decide ((pc : Int) + off = ((ax.headD 0 : Nat) : Int))
  | .getfield i => (match ax with | j :: ty :: cis => cis.all (fun ci => pm_fok M.1.cls i ci j ty) | _ => true)
  | .putfield i => (match ax with | j :: ty :: _ :: cis => cis.all (fun ci => pm_fok M.1.cls i ci j ty && pm_fin M.1.cls (decide (M.1.name = "<init>")) ci j) | _ => true)
  | .new i => (match ax with | ci :: _ => Nat.blt ci 7 && pm_has (.classLink M.1.cls i (pm_cn ci)) && pm_has (.instantiable (pm_cn ci) (pm_fs0 ci).length) && pm_has (.initialized (pm_cn ci)) | _ => true)
  | .newarray a => (match ax with | [t] => (decide (a = .int) && Nat.beq t 0 && pm_has (.arrayClass .int)) || (decide (a = .boolean) && Nat.beq t 1 && pm_has (.arrayClass .boolean)) | _ => true)
  | .anewarray i => (match ax with | [t] => (Nat.beq t 2 && pm_has (.classLink M.1.cls i "PlatformDoors$Frame")) || (Nat.beq t 3 && pm_has (.classLink M.1.cls i "PlatformDoors$Leaf")) | _ => true)
  | .invokevirtual i => (match ax with | na :: xn :: ps => pm_okp MT M.1.cls i na xn ps | _ => true)
  | .invokespecial i => (match ax with
    | [] => pm_has (.methodLink M.1.cls i Lib.objectInit) && pm_has (.instanceMethod Lib.objectInit) && pm_has (.code Lib.objectInit ⟨#[0xb1]⟩ 1 none)
    | na :: mi :: _ => pm_okc MT mi (na + 1) (fun N => pm_desc N.1 na && decide (N.1.name = "<init>") && decide (N.2.2.2.1 = none) && pm_has (.instanceMethod N.1) && (pm_has (.methodLink M.1.cls i N.1) || pm_hasN (.methodLinkNest M.1.cls i N.1 pm_host)))
    | _ => true)
  | .invokestatic i => (match ax with
    | [0] => pm_has (.methodLink M.1.cls i Lib.Math.max.name) && pm_has (.static Lib.Math.max.name) && pm_has (.initialized "java/lang/Math") && pm_has (.code Lib.Math.max.name Lib.Math.max.code 2 (some .int))
    | [1] => pm_has (.methodLink M.1.cls i Lib.Math.min.name) && pm_has (.static Lib.Math.min.name) && pm_has (.initialized "java/lang/Math") && pm_has (.code Lib.Math.min.name Lib.Math.min.code 2 (some .int))
    | na :: mi :: _ => pm_okc MT mi na (fun N => pm_desc N.1 na && pm_has (.static N.1) && ((decide (N.1.cls = M.1.cls) && pm_has (.methodLink M.1.cls i N.1)) || pm_hasN (.methodLinkNest M.1.cls i N.1 pm_host)))
    | _ => true)
  | .tableswitch d lo hi offs => (match ax with
    | t0 :: ts => decide (lo = 0) && decide (hi + 1 = (ts.length : Int)) && decide ((pc : Int) + d = ((t0 : Nat) : Int)) && decide (offs.toList.map (fun o => (pc : Int) + o) = ts.map (fun (t : Nat) => (t : Int))) && Nat.blt ts.length 1000
    | _ => true)
  | _ => true
def pm_okb (MT : List pm_Mt) (M : pm_Mt) (row : pm_Row) : Bool := decide (decode M.2.1 row.1 = .ok (row.2.1, pm_len row.2.1 (row.2.2.1 - row.1))) && Nat.beq row.2.2.1 (row.1 + pm_len row.2.1 (row.2.2.1 - row.1)) && pm_oki MT M row.1 row.2.1 row.2.2.2
def pm_rko (ret : Option FieldType) (rk : Nat) : Bool := match ret, rk with
  | none, 0 => true
  | some .int, 1 => true
  | some .boolean, 2 => true
  | some (.object _), 3 => true
  | _, _ => false
def pm_okm (MT : List pm_Mt) (M : pm_Mt) : Bool := plainName M.1.cls && pm_rko M.2.2.2.1 M.2.2.2.2.2 && M.2.2.2.2.1.all (fun ch => ch.all (pm_okb MT M))
theorem pm_look_mem : ∀ (rows : List pm_Row) (pc : Nat) (a : Jvm.ClassFile.Instr × Nat × List Nat), pm_look rows pc = some a → (pc, a) ∈ rows
  | [], _, _, h => by cases h
  | (k, b) :: t, pc, a, h => by
    unfold pm_look at h
    cases hk : Nat.beq k pc with
    | true =>
      rw [hk] at h
      have e1 := pm_beq hk
      have e2 : b = a := Option.some.inj h
      subst e1; subst e2
      exact List.mem_cons_self
    | false =>
      rw [hk] at h
      exact List.mem_cons_of_mem _ (pm_look_mem t pc a h)
theorem pm_find_ok {MT : List pm_Mt} {M : pm_Mt} (h : pm_okm MT M = true) {pc nx : Nat} {ins : Jvm.ClassFile.Instr} {ax : List Nat} (hf : pm_find M.2.2.2.2.1 pc = some (ins, nx, ax)) : decode M.2.1 pc = .ok (ins, pm_len ins (nx - pc)) ∧ nx = pc + pm_len ins (nx - pc) ∧ pm_oki MT M pc ins ax = true := by
  simp only [pm_okm, Bool.and_eq_true] at h
  have hm := pm_look_mem _ _ _ hf
  have hch : (M.2.2.2.2.1.getD (pc / 16) []).all (pm_okb MT M) = true := by
    by_cases hl : pc / 16 < M.2.2.2.2.1.length
    · have h2 := List.all_eq_true.mp h.2 (M.2.2.2.2.1[pc / 16]) (List.getElem_mem hl)
      rw [List.getD_eq_getElem?_getD, List.getElem?_eq_getElem hl]
      exact h2
    · rw [List.getD_eq_getElem?_getD, List.getElem?_eq_none (Nat.not_lt.mp hl)]
      rfl
  have h3 := List.all_eq_true.mp hch _ hm
  simp only [pm_okb, Bool.and_eq_true, decide_eq_true_eq] at h3
  exact ⟨h3.1.1, pm_beq h3.1.2, h3.2⟩

section
-- ===== PART A: goes FIRST, ahead of the names: the tables' words, and 'selects' of the private methods out of them =====
/-- a private method of a class that the tables say can be made, by its rows of tables_1 -/
def lw_okq (q : MethodName × Nat) : Prop := (q.1.cls ≠ "java/lang/invoke/MethodHandle" ∧ q.1.cls ≠ "java/lang/invoke/VarHandle") ∧ Cond.instantiable q.1.cls q.2 ∈ tables_1 ∧ Cond.privateMethod q.1 ∈ tables_1 ∧ Cond.instanceMethod q.1 ∈ tables_1
theorem lw_p0 : lw_okq (⟨"PlatformDoors", "restart", "()V"⟩, 4) := ⟨⟨by decide +kernel, by decide +kernel⟩, List.mem_of_getElem? (i := 11) (by decide +kernel), List.mem_of_getElem? (i := 200) (by decide +kernel), List.mem_of_getElem? (i := 201) (by decide +kernel)⟩
theorem lw_p1 : lw_okq (⟨"PlatformDoors", "sideOf", "(I)LPlatformDoors$Side;"⟩, 4) := ⟨⟨by decide +kernel, by decide +kernel⟩, List.mem_of_getElem? (i := 11) (by decide +kernel), List.mem_of_getElem? (i := 253) (by decide +kernel), List.mem_of_getElem? (i := 254) (by decide +kernel)⟩
theorem lw_p2 : lw_okq (⟨"PlatformDoors$Train", "isReady", "()Z"⟩, 14) := ⟨⟨by decide +kernel, by decide +kernel⟩, List.mem_of_getElem? (i := 71) (by decide +kernel), List.mem_of_getElem? (i := 297) (by decide +kernel), List.mem_of_getElem? (i := 298) (by decide +kernel)⟩
theorem lw_p3 : lw_okq (⟨"PlatformDoors$Leaf", "move", "()V"⟩, 9) := ⟨⟨by decide +kernel, by decide +kernel⟩, List.mem_of_getElem? (i := 83) (by decide +kernel), List.mem_of_getElem? (i := 331) (by decide +kernel), List.mem_of_getElem? (i := 332) (by decide +kernel)⟩
theorem lw_p4 : lw_okq (⟨"PlatformDoors$Leaf", "feel", "()V"⟩, 9) := ⟨⟨by decide +kernel, by decide +kernel⟩, List.mem_of_getElem? (i := 83) (by decide +kernel), List.mem_of_getElem? (i := 338) (by decide +kernel), List.mem_of_getElem? (i := 339) (by decide +kernel)⟩
theorem lw_p5 : lw_okq (⟨"PlatformDoors", "watchTrain", "()V"⟩, 4) := ⟨⟨by decide +kernel, by decide +kernel⟩, List.mem_of_getElem? (i := 11) (by decide +kernel), List.mem_of_getElem? (i := 399) (by decide +kernel), List.mem_of_getElem? (i := 400) (by decide +kernel)⟩
theorem lw_p6 : lw_okq (⟨"PlatformDoors", "watchPlatform", "()V"⟩, 4) := ⟨⟨by decide +kernel, by decide +kernel⟩, List.mem_of_getElem? (i := 11) (by decide +kernel), List.mem_of_getElem? (i := 407) (by decide +kernel), List.mem_of_getElem? (i := 408) (by decide +kernel)⟩
theorem lw_p7 : lw_okq (⟨"PlatformDoors", "isUnderWay", "(II)Z"⟩, 4) := ⟨⟨by decide +kernel, by decide +kernel⟩, List.mem_of_getElem? (i := 11) (by decide +kernel), List.mem_of_getElem? (i := 449) (by decide +kernel), List.mem_of_getElem? (i := 450) (by decide +kernel)⟩
theorem lw_p8 : lw_okq (⟨"PlatformDoorsModel", "stepOne", "(I)V"⟩, 24) := ⟨⟨by decide +kernel, by decide +kernel⟩, List.mem_of_getElem? (i := 524) (by decide +kernel), List.mem_of_getElem? (i := 616) (by decide +kernel), List.mem_of_getElem? (i := 617) (by decide +kernel)⟩
theorem lw_p9 : lw_okq (⟨"PlatformDoorsModel", "changeState", "(I)V"⟩, 24) := ⟨⟨by decide +kernel, by decide +kernel⟩, List.mem_of_getElem? (i := 524) (by decide +kernel), List.mem_of_getElem? (i := 620) (by decide +kernel), List.mem_of_getElem? (i := 621) (by decide +kernel)⟩
theorem lw_p10 : lw_okq (⟨"PlatformDoorsModel", "mayOpen", "(I)Z"⟩, 24) := ⟨⟨by decide +kernel, by decide +kernel⟩, List.mem_of_getElem? (i := 524) (by decide +kernel), List.mem_of_getElem? (i := 624) (by decide +kernel), List.mem_of_getElem? (i := 625) (by decide +kernel)⟩
theorem lw_p11 : lw_okq (⟨"PlatformDoorsModel", "isFresh", "(I)Z"⟩, 24) := ⟨⟨by decide +kernel, by decide +kernel⟩, List.mem_of_getElem? (i := 524) (by decide +kernel), List.mem_of_getElem? (i := 628) (by decide +kernel), List.mem_of_getElem? (i := 629) (by decide +kernel)⟩
theorem lw_p12 : lw_okq (⟨"PlatformDoorsModel", "age", "(I)I"⟩, 24) := ⟨⟨by decide +kernel, by decide +kernel⟩, List.mem_of_getElem? (i := 524) (by decide +kernel), List.mem_of_getElem? (i := 632) (by decide +kernel), List.mem_of_getElem? (i := 633) (by decide +kernel)⟩
theorem lw_p13 : lw_okq (⟨"PlatformDoorsModel", "isReady", "()Z"⟩, 24) := ⟨⟨by decide +kernel, by decide +kernel⟩, List.mem_of_getElem? (i := 524) (by decide +kernel), List.mem_of_getElem? (i := 636) (by decide +kernel), List.mem_of_getElem? (i := 637) (by decide +kernel)⟩
theorem lw_p14 : lw_okq (⟨"PlatformDoorsModel", "mustClose", "(I)Z"⟩, 24) := ⟨⟨by decide +kernel, by decide +kernel⟩, List.mem_of_getElem? (i := 524) (by decide +kernel), List.mem_of_getElem? (i := 640) (by decide +kernel), List.mem_of_getElem? (i := 641) (by decide +kernel)⟩
theorem lw_p15 : lw_okq (⟨"PlatformDoorsModel", "isStale", "(I)Z"⟩, 24) := ⟨⟨by decide +kernel, by decide +kernel⟩, List.mem_of_getElem? (i := 524) (by decide +kernel), List.mem_of_getElem? (i := 644) (by decide +kernel), List.mem_of_getElem? (i := 645) (by decide +kernel)⟩
def lw_privs_1 : List (MethodName × Nat) := [(⟨"PlatformDoors", "restart", "()V"⟩, 4), (⟨"PlatformDoors", "sideOf", "(I)LPlatformDoors$Side;"⟩, 4), (⟨"PlatformDoors$Train", "isReady", "()Z"⟩, 14), (⟨"PlatformDoors$Leaf", "move", "()V"⟩, 9), (⟨"PlatformDoors$Leaf", "feel", "()V"⟩, 9), (⟨"PlatformDoors", "watchTrain", "()V"⟩, 4), (⟨"PlatformDoors", "watchPlatform", "()V"⟩, 4), (⟨"PlatformDoors", "isUnderWay", "(II)Z"⟩, 4), (⟨"PlatformDoorsModel", "stepOne", "(I)V"⟩, 24), (⟨"PlatformDoorsModel", "changeState", "(I)V"⟩, 24), (⟨"PlatformDoorsModel", "mayOpen", "(I)Z"⟩, 24), (⟨"PlatformDoorsModel", "isFresh", "(I)Z"⟩, 24), (⟨"PlatformDoorsModel", "age", "(I)I"⟩, 24), (⟨"PlatformDoorsModel", "isReady", "()Z"⟩, 24), (⟨"PlatformDoorsModel", "mustClose", "(I)Z"⟩, 24), (⟨"PlatformDoorsModel", "isStale", "(I)Z"⟩, 24)]
theorem lw_r1 : ∀ q ∈ lw_privs_1, lw_okq q := List.forall_mem_cons.mpr ⟨lw_p0, List.forall_mem_cons.mpr ⟨lw_p1, List.forall_mem_cons.mpr ⟨lw_p2, List.forall_mem_cons.mpr ⟨lw_p3, List.forall_mem_cons.mpr ⟨lw_p4, List.forall_mem_cons.mpr ⟨lw_p5, List.forall_mem_cons.mpr ⟨lw_p6, List.forall_mem_cons.mpr ⟨lw_p7, List.forall_mem_cons.mpr ⟨lw_p8, List.forall_mem_cons.mpr ⟨lw_p9, List.forall_mem_cons.mpr ⟨lw_p10, List.forall_mem_cons.mpr ⟨lw_p11, List.forall_mem_cons.mpr ⟨lw_p12, List.forall_mem_cons.mpr ⟨lw_p13, List.forall_mem_cons.mpr ⟨lw_p14, List.forall_mem_cons.mpr ⟨lw_p15, fun _ h => absurd h List.not_mem_nil⟩⟩⟩⟩⟩⟩⟩⟩⟩⟩⟩⟩⟩⟩⟩⟩
theorem lw_p16 : lw_okq (⟨"PlatformDoorsModel", "moveLeaf", "(II)V"⟩, 24) := ⟨⟨by decide +kernel, by decide +kernel⟩, List.mem_of_getElem? (i := 524) (by decide +kernel), List.mem_of_getElem? (i := 648) (by decide +kernel), List.mem_of_getElem? (i := 649) (by decide +kernel)⟩
theorem lw_p17 : lw_okq (⟨"PlatformDoorsModel", "isLocked", "(I)Z"⟩, 24) := ⟨⟨by decide +kernel, by decide +kernel⟩, List.mem_of_getElem? (i := 524) (by decide +kernel), List.mem_of_getElem? (i := 652) (by decide +kernel), List.mem_of_getElem? (i := 653) (by decide +kernel)⟩
theorem lw_p18 : lw_okq (⟨"PlatformDoorsModel", "send", "(I)V"⟩, 24) := ⟨⟨by decide +kernel, by decide +kernel⟩, List.mem_of_getElem? (i := 524) (by decide +kernel), List.mem_of_getElem? (i := 656) (by decide +kernel), List.mem_of_getElem? (i := 657) (by decide +kernel)⟩
theorem lw_p19 : lw_okq (⟨"PlatformDoorsModel", "isolatedBits", "(I)I"⟩, 24) := ⟨⟨by decide +kernel, by decide +kernel⟩, List.mem_of_getElem? (i := 524) (by decide +kernel), List.mem_of_getElem? (i := 660) (by decide +kernel), List.mem_of_getElem? (i := 661) (by decide +kernel)⟩
theorem lw_p20 : lw_okq (⟨"PlatformDoorsModel", "isGood", "(I)Z"⟩, 24) := ⟨⟨by decide +kernel, by decide +kernel⟩, List.mem_of_getElem? (i := 524) (by decide +kernel), List.mem_of_getElem? (i := 664) (by decide +kernel), List.mem_of_getElem? (i := 665) (by decide +kernel)⟩
theorem lw_p21 : lw_okq (⟨"PlatformDoorsModel", "toldLeaves", "(I)I"⟩, 24) := ⟨⟨by decide +kernel, by decide +kernel⟩, List.mem_of_getElem? (i := 524) (by decide +kernel), List.mem_of_getElem? (i := 668) (by decide +kernel), List.mem_of_getElem? (i := 669) (by decide +kernel)⟩
theorem lw_p22 : lw_okq (⟨"PlatformDoorsModel", "isTold", "(I)Z"⟩, 24) := ⟨⟨by decide +kernel, by decide +kernel⟩, List.mem_of_getElem? (i := 524) (by decide +kernel), List.mem_of_getElem? (i := 672) (by decide +kernel), List.mem_of_getElem? (i := 673) (by decide +kernel)⟩
theorem lw_p23 : lw_okq (⟨"PlatformDoorsModel", "says", "(IZ)Z"⟩, 24) := ⟨⟨by decide +kernel, by decide +kernel⟩, List.mem_of_getElem? (i := 524) (by decide +kernel), List.mem_of_getElem? (i := 676) (by decide +kernel), List.mem_of_getElem? (i := 677) (by decide +kernel)⟩
theorem lw_p24 : lw_okq (⟨"PlatformDoorsModel", "noFrame", "(II)Z"⟩, 24) := ⟨⟨by decide +kernel, by decide +kernel⟩, List.mem_of_getElem? (i := 524) (by decide +kernel), List.mem_of_getElem? (i := 717) (by decide +kernel), List.mem_of_getElem? (i := 718) (by decide +kernel)⟩
theorem lw_p25 : lw_okq (⟨"PlatformDoorsModel", "takeOut", "(II)V"⟩, 24) := ⟨⟨by decide +kernel, by decide +kernel⟩, List.mem_of_getElem? (i := 524) (by decide +kernel), List.mem_of_getElem? (i := 721) (by decide +kernel), List.mem_of_getElem? (i := 722) (by decide +kernel)⟩
def lw_privs_2 : List (MethodName × Nat) := [(⟨"PlatformDoorsModel", "moveLeaf", "(II)V"⟩, 24), (⟨"PlatformDoorsModel", "isLocked", "(I)Z"⟩, 24), (⟨"PlatformDoorsModel", "send", "(I)V"⟩, 24), (⟨"PlatformDoorsModel", "isolatedBits", "(I)I"⟩, 24), (⟨"PlatformDoorsModel", "isGood", "(I)Z"⟩, 24), (⟨"PlatformDoorsModel", "toldLeaves", "(I)I"⟩, 24), (⟨"PlatformDoorsModel", "isTold", "(I)Z"⟩, 24), (⟨"PlatformDoorsModel", "says", "(IZ)Z"⟩, 24), (⟨"PlatformDoorsModel", "noFrame", "(II)Z"⟩, 24), (⟨"PlatformDoorsModel", "takeOut", "(II)V"⟩, 24)]
theorem lw_r2 : ∀ q ∈ lw_privs_2, lw_okq q := List.forall_mem_cons.mpr ⟨lw_p16, List.forall_mem_cons.mpr ⟨lw_p17, List.forall_mem_cons.mpr ⟨lw_p18, List.forall_mem_cons.mpr ⟨lw_p19, List.forall_mem_cons.mpr ⟨lw_p20, List.forall_mem_cons.mpr ⟨lw_p21, List.forall_mem_cons.mpr ⟨lw_p22, List.forall_mem_cons.mpr ⟨lw_p23, List.forall_mem_cons.mpr ⟨lw_p24, List.forall_mem_cons.mpr ⟨lw_p25, fun _ h => absurd h List.not_mem_nil⟩⟩⟩⟩⟩⟩⟩⟩⟩⟩
def lw_privs : List (MethodName × Nat) := lw_privs_1 ++ (lw_privs_2)
def lw_tbl : List Cond := k2_sels lw_privs ++ tables_1
theorem lw_privs_ok : ∀ q ∈ lw_privs, lw_okq q := by
  show ∀ q ∈ lw_privs_1 ++ (lw_privs_2), lw_okq q
  exact List.forall_mem_append.mpr ⟨lw_r1, lw_r2⟩
end
section
/-! Private methods of the type above Train and Platform, on receivers of these two: the words by which a call selects them follow from others. -/
theorem pm_sel {C : String} {x0 y0 y : MethodName} {s : State} {args : Array Value} (h0 : (Cond.selects C x0 y0).before args s = true) (hc : y0.cls = y.cls) (hy : y.cls ≠ "java/lang/invoke/MethodHandle" ∧ y.cls ≠ "java/lang/invoke/VarHandle") (hp : (Cond.privateMethod y).before args s = true) (hi : (Cond.instanceMethod y).before args s = true) : (Cond.selects C y y).before args s = true := by
  obtain ⟨mk, me, hn, hm, -, -⟩ := Cond.instanceMethod_spec hi
  obtain ⟨cc, rr, mm, e1, -, e3, -, kk, e5, e6⟩ := Cond.selects_spec h0
  have hf := State.methodFound?_of_named hn hy
  have hs : selectMethod {} s.vm cc mk = .method mk := selectMethod_private hm (Cond.privateMethod_at hp mk me hn hm)
  have hmc : mk.cls = mm.cls := by
    have h1 := findClass_of_methodNamed hn
    have h2 := findClass_of_methodNamed e3
    rw [hc, h1] at h2
    exact Option.some.inj h2
  simp only [Cond.before, Cond.holds, Cond.value, e1, hf, hn, hs, hmc, e5]
  simp
  exact e6
def pm_pv : List MethodName := [⟨"PlatformDoors$Side", "changeState", "()V"⟩, ⟨"PlatformDoors$Side", "send", "()V"⟩, ⟨"PlatformDoors$Side", "isolatedBits", "()I"⟩]
def pm_w2 : List Cond := pm_pv.map (fun y => Cond.selects "PlatformDoors$Train" y y) ++ pm_pv.map (fun y => Cond.selects "PlatformDoors$Platform" y y)
def pm_tb : List Cond := pm_w2 ++ lw_tbl
def pm_sadv : MethodName := ⟨"PlatformDoors$Side", "advance", "()V"⟩
theorem pm_pv_ok : ∀ y ∈ pm_pv, y.cls = "PlatformDoors$Side" ∧ Cond.privateMethod y ∈ lw_tbl ∧ Cond.instanceMethod y ∈ lw_tbl := by decide +kernel
theorem pm_sadv_ok : Cond.selects "PlatformDoors$Train" pm_sadv pm_sadv ∈ lw_tbl ∧ Cond.selects "PlatformDoors$Platform" pm_sadv pm_sadv ∈ lw_tbl := by decide +kernel
theorem pm_tb_of {s : State} {args : Array Value} (h : ∀ w ∈ lw_tbl, w.before args s = true) : ∀ w ∈ pm_tb, w.before args s = true := by
  intro w hw
  rcases List.mem_append.mp hw with hw | hw
  · rcases List.mem_append.mp hw with hw | hw
    · obtain ⟨y, hy, rfl⟩ := List.mem_map.mp hw
      obtain ⟨h1, h2, h3⟩ := pm_pv_ok y hy
      exact pm_sel (h _ pm_sadv_ok.1) h1.symm (by rw [h1]; exact ⟨by decide, by decide⟩) (h _ h2) (h _ h3)
    · obtain ⟨y, hy, rfl⟩ := List.mem_map.mp hw
      obtain ⟨h1, h2, h3⟩ := pm_pv_ok y hy
      exact pm_sel (h _ pm_sadv_ok.2) h1.symm (by rw [h1]; exact ⟨by decide, by decide⟩) (h _ h2) (h _ h3)
  · exact h w hw
end
section
/-! A small machine of my own over PLACES (see NOTES.md, section H): ints, booleans and references in a memory of places; one step in the style of continuations, so that a branch on a number that isn't known stands outside. Nothing here speaks of the model; part 12 shows that what this machine does, the model does. -/
abbrev pm_V : Type := Int32 ⊕ (Bool ⊕ (Option Nat ⊕ Unit))
abbrev pm_S : Type := Nat × (Nat → Nat → Int32) × (Nat → Nat → Bool) × (Nat → Nat → Option Nat)
abbrev pm_Rs : Type := Option pm_V × pm_S
abbrev pm_Lv : Type := List (Nat × pm_V)
abbrev pm_Row : Type := Nat × Jvm.ClassFile.Instr × Nat × List Nat
abbrev pm_Cd : Type := List (List pm_Row)
abbrev pm_Kd : Type := Nat ⊕ (Nat × Nat)
abbrev pm_Sc : Type := Nat × (Nat → Int32)
def pm_up {α : Type} (x : Nat → Nat → α) (k j : Nat) (v : α) : Nat → Nat → α := fun a b => bif Nat.beq a k && Nat.beq b j then v else x a b
def pm_fz {α : Type} (x : Nat → Nat → α) (k : Nat) (v : α) : Nat → Nat → α := fun a b => bif Nat.beq a k then v else x a b
def pm_lget : pm_Lv → Nat → Option pm_V
  | [], _ => none
  | (k, v) :: t, i => bif Nat.beq k i then some v else pm_lget t i
def pm_ldel : pm_Lv → Nat → pm_Lv
  | [], _ => []
  | (k, v) :: t, i => bif Nat.beq k i then pm_ldel t i else (k, v) :: pm_ldel t i
def pm_lset (lv : pm_Lv) (i : Nat) (v : pm_V) : pm_Lv := (i, v) :: pm_ldel lv i
def pm_look : List pm_Row → Nat → Option (Jvm.ClassFile.Instr × Nat × List Nat)
  | [], _ => none
  | (k, a) :: t, n => bif Nat.beq k n then some a else pm_look t n
def pm_find (cd : pm_Cd) (pc : Nat) : Option (Jvm.ClassFile.Instr × Nat × List Nat) := pm_look (cd.getD (pc / 16) []) pc
/-- what each place is: an object's kind by number, or a kind of array (0 int, 1 boolean, 2 Frame, 3 Leaf) and its length; in the order of making -/
def pm_kds : List (List pm_Kd) := [
  [.inl 0, .inl 3, .inr (2, 12), .inl 1, .inl 1, .inl 1, .inl 1, .inl 1],
  [.inl 1, .inl 1, .inl 1, .inl 1, .inl 1, .inl 1, .inl 1, .inl 3],
  [.inr (2, 12), .inl 1, .inl 1, .inl 1, .inl 1, .inl 1, .inl 1, .inl 1],
  [.inl 1, .inl 1, .inl 1, .inl 1, .inl 1, .inl 5, .inr (3, 8), .inl 1],
  [.inl 2, .inr (0, 2), .inl 2, .inr (0, 2), .inl 2, .inr (0, 2), .inl 2, .inr (0, 2)],
  [.inl 2, .inr (0, 2), .inl 2, .inr (0, 2), .inl 2, .inr (0, 2), .inl 2, .inr (0, 2)],
  [.inl 4, .inr (3, 8), .inl 1, .inl 2, .inr (0, 2), .inl 2, .inr (0, 2), .inl 2],
  [.inr (0, 2), .inl 2, .inr (0, 2), .inl 2, .inr (0, 2), .inl 2, .inr (0, 2), .inl 2],
  [.inr (0, 2), .inl 2, .inr (0, 2), .inl 6, .inr (0, 2), .inr (0, 2), .inr (0, 2), .inr (0, 2)],
  [.inr (1, 2), .inr (0, 12), .inr (0, 2), .inr (0, 144), .inr (0, 16), .inr (1, 16), .inr (1, 16), .inr (1, 16)],
  [.inr (1, 16), .inr (0, 16), .inr (0, 16), .inr (0, 16), .inr (0, 32)]]
def pm_kd (k : Nat) : Option pm_Kd := (pm_kds.getD (k / 8) [])[k % 8]?
/-- is i an index below len? -/
def pm_ib (i : Int32) (len : Nat) : Bool := !(decide (i < 0)) && Nat.blt i.toNatClampNeg len
/-- a switch from the case v on -/
def pm_sw {α : Type} (x : Int32) (kg : Nat → α) (dflt : Nat) : List Nat → Nat → α
  | [], _ => kg dflt
  | t :: ts, v => if x = Int32.ofNat v then kg t else pm_sw x kg dflt ts (v + 1)
def pm_pair : List Nat → Nat → Option Nat
  | a :: b :: t, i => bif Nat.beq a i then some b else pm_pair t i
  | _, _ => none
def pm_con : List Nat → Int32
  | [m, 0] => Int32.ofNat m
  | [m, _] => - Int32.ofNat m
  | _ => 0
section PMD
variable {α : Type} (c : Nat → List pm_V → pm_S → Option pm_Rs) (sc : pm_Sc) (rk : Nat)
def pm_br (cd : Jvm.ClassFile.Cond) (x : Int32) (a b : α) : α := match cd with
  | .eq => if x = 0 then a else b
  | .ne => if x = 0 then b else a
  | .lt => if x < 0 then a else b
  | .ge => if 0 ≤ x then a else b
  | .gt => if 0 < x then a else b
  | .le => if x ≤ 0 then a else b
def pm_br2 (cd : Jvm.ClassFile.Cond) (x y : Int32) (a b : α) : α := match cd with
  | .eq => if x = y then a else b
  | .ne => if x = y then b else a
  | .lt => if x < y then a else b
  | .ge => if y ≤ x then a else b
  | .gt => if y < x then a else b
  | .le => if x ≤ y then a else b
def pm_brb (cd : Jvm.ClassFile.Cond) (x : Bool) (a b kn : α) : α := match cd with
  | .eq => if x = true then b else a
  | .ne => if x = true then a else b
  | _ => kn
def pm_brb2 (cd : Jvm.ClassFile.Cond) (x y : Bool) (a b kn : α) : α := match cd with
  | .eq => if x = y then a else b
  | .ne => if x = y then b else a
  | _ => kn
/-- the kind of the object at a place that has been made -/
def pm_cls (n k : Nat) : Option Nat := bif Nat.blt k n then (match pm_kd k with | some (.inl ci) => some ci | _ => none) else none
/-- the kind of the array at a place that has been made -/
def pm_arr (n k : Nat) : Option (Nat × Nat) := bif Nat.blt k n then (match pm_kd k with | some (.inr a) => some a | _ => none) else none
def pm_call1 (kg : Option pm_V → pm_S → α) (kn : α) (r : Option pm_Rs) : α := match r with
  | some (v, u) => kg v u
  | none => kn
def pm_get (ty k j : Nat) (u : pm_S) : pm_V := match ty with
  | 0 => .inl (u.2.1 k j)
  | 1 => .inr (.inl (u.2.2.1 k j))
  | _ => .inr (.inr (.inl (u.2.2.2 k j)))
/-- a value into slot j of place k -/
def pm_put (ty k j : Nat) (v : pm_V) (u : pm_S) (kg : pm_S → α) (kn : α) : α := match ty, v with
  | 0, .inl x => kg (u.1, pm_up u.2.1 k j x, u.2.2.1, u.2.2.2)
  | 1, .inr (.inl b) => kg (u.1, u.2.1, pm_up u.2.2.1 k j b, u.2.2.2)
  | 1, .inl x => if x = 0 then kg (u.1, u.2.1, pm_up u.2.2.1 k j false, u.2.2.2) else if x = 1 then kg (u.1, u.2.1, pm_up u.2.2.1 k j true, u.2.2.2) else kn
  | 2, .inr (.inr (.inl (some q))) => kg (u.1, u.2.1, u.2.2.1, pm_up u.2.2.2 k j (some q))
  | _, _ => kn
def pm_iret (st : List pm_V) (u : pm_S) (kr : pm_Rs → α) (kn : α) : α := match rk, st with
  | 1, [.inl x] => kr (some (.inl x), u)
  | 2, [.inr (.inl b)] => kr (some (.inr (.inl b)), u)
  | 2, [.inl x] => if x = 0 then kr (some (.inr (.inl false)), u) else if x = 1 then kr (some (.inr (.inl true)), u) else kn
  | _, _ => kn
def pm_ld (v : Option pm_V) (kg : pm_V → α) (kn : α) : α := match v with
  | some (.inl x) => kg (.inl x)
  | some (.inr (.inl b)) => kg (.inr (.inl b))
  | _ => kn
def pm_la (v : Option pm_V) (kg : pm_V → α) (kn : α) : α := match v with
  | some (.inr (.inr q)) => kg (.inr (.inr q))
  | _ => kn
def pm_si (st : List pm_V) (kg : pm_V → List pm_V → α) (kn : α) : α := match st with
  | .inl x :: st => kg (.inl x) st
  | .inr (.inl b) :: st => kg (.inr (.inl b)) st
  | _ => kn
def pm_sa (st : List pm_V) (kg : pm_V → List pm_V → α) (kn : α) : α := match st with
  | .inr (.inr q) :: st => kg (.inr (.inr q)) st
  | _ => kn
def pm_op2 (st : List pm_V) (kg : Int32 → Int32 → List pm_V → α) (kn : α) : α := match st with
  | .inl y :: .inl x :: st => kg x y st
  | _ => kn
def pm_obj (n : Nat) (st : List pm_V) (kg : Nat → Nat → List pm_V → α) (kn : α) : α := match st with
  | .inr (.inr (.inl (some k))) :: st => (match pm_cls n k with | some ci => kg k ci st | none => kn)
  | _ => kn
/-- reads and writes of arrays: kind t0 -/
def pm_ald (t0 : Nat) (st : List pm_V) (u : pm_S) (kg : pm_V → List pm_V → α) (kn : α) : α := match st with
  | .inl i :: .inr (.inr (.inl (some k))) :: st => (match pm_arr u.1 k with
    | some (t, len) => bif (Nat.beq t t0 || (Nat.beq t0 2 && Nat.beq t 3)) && pm_ib i len then kg (pm_get t0 k i.toNatClampNeg u) st else kn
    | none => kn)
  | .inl i :: .inr (.inr (.inr _)) :: st => bif Nat.beq t0 0 && pm_ib i sc.1 then kg (.inl (sc.2 i.toNatClampNeg)) st else kn
  | _ => kn
def pm_ast (t0 : Nat) (st : List pm_V) (u : pm_S) (kg : List pm_V → pm_S → α) (kn : α) : α := match st with
  | v :: .inl i :: .inr (.inr (.inl (some k))) :: st => (match pm_arr u.1 k with
    | some (t, len) => bif Nat.beq t t0 && pm_ib i len then pm_put t0 k i.toNatClampNeg v u (fun u => kg st u) kn else kn
    | none => kn)
  | _ => kn
def pm_asta (st : List pm_V) (u : pm_S) (kg : List pm_V → pm_S → α) (kn : α) : α := match st with
  | .inr (.inr (.inl (some q))) :: .inl i :: .inr (.inr (.inl (some k))) :: st => (match pm_arr u.1 k, pm_cls u.1 q with
    | some (t, len), some ci => bif ((Nat.beq t 2 && Nat.beq ci 1) || (Nat.beq t 3 && Nat.beq ci 2)) && pm_ib i len then kg st (u.1, u.2.1, u.2.2.1, pm_up u.2.2.2 k i.toNatClampNeg (some q)) else kn
    | _, _ => kn)
  | _ => kn
/-- a new place n, all zero -/
def pm_made (u : pm_S) : pm_S := (u.1 + 1, pm_fz u.2.1 u.1 0, pm_fz u.2.2.1 u.1 false, pm_fz u.2.2.2 u.1 none)
def pm_new (d : pm_Kd) (st : List pm_V) (u : pm_S) (kg : List pm_V → pm_S → α) (kn : α) : α := match pm_kd u.1, d with
  | some (.inl a), .inl b => bif Nat.beq a b then kg (.inr (.inr (.inl (some u.1))) :: st) (pm_made u) else kn
  | some (.inr (a, x)), .inr (b, y) => bif Nat.beq a b && Nat.beq x y then kg (.inr (.inr (.inl (some u.1))) :: st) (pm_made u) else kn
  | _, _ => kn
/-- below a call's arguments the stack is short -/
def pm_gd (st : List pm_V) (a kn : α) : α := bif Nat.ble st.length 8 then a else kn
/-- the arguments off the stack: the last is on top -/
def pm_pop : Nat → List pm_V → List pm_V → Option (List pm_V × List pm_V)
  | 0, as, st => some (as, st)
  | n + 1, as, v :: st => pm_pop n (v :: as) st
  | _ + 1, _, [] => none
def pm_do (ins : Jvm.ClassFile.Instr) (nx : Nat) (ax : List Nat) (lv : pm_Lv) (st : List pm_V) (u : pm_S) (kg : Nat → pm_Lv → List pm_V → pm_S → α) (kr : pm_Rs → α) (kn : α) : α := match ins with
  | .iconst n => kg nx lv (.inl (Int32.ofInt n) :: st) u
  | .bipush n => kg nx lv (.inl (Int32.ofInt n) :: st) u
  | .sipush n => kg nx lv (.inl (Int32.ofInt n) :: st) u
  | .ldc _ => kg nx lv (.inl (pm_con ax) :: st) u
  | .iload_n k => pm_ld (pm_lget lv k.val) (fun v => kg nx lv (v :: st) u) kn
  | .iload i => pm_ld (pm_lget lv i) (fun v => kg nx lv (v :: st) u) kn
  | .aload_n k => pm_la (pm_lget lv k.val) (fun v => kg nx lv (v :: st) u) kn
  | .aload i => pm_la (pm_lget lv i) (fun v => kg nx lv (v :: st) u) kn
  | .istore_n k => pm_si st (fun v st => kg nx (pm_lset lv k.val v) st u) kn
  | .istore i => pm_si st (fun v st => kg nx (pm_lset lv i v) st u) kn
  | .astore_n k => pm_sa st (fun v st => kg nx (pm_lset lv k.val v) st u) kn
  | .astore i => pm_sa st (fun v st => kg nx (pm_lset lv i v) st u) kn
  | .iinc i n => (match pm_lget lv i with | some (.inl x) => kg nx (pm_lset lv i (.inl (x + Int32.ofInt n))) st u | _ => kn)
  | .iadd => pm_op2 st (fun x y st => kg nx lv (.inl (x + y) :: st) u) kn
  | .isub => pm_op2 st (fun x y st => kg nx lv (.inl (x - y) :: st) u) kn
  | .imul => pm_op2 st (fun x y st => kg nx lv (.inl (x * y) :: st) u) kn
  | .iand => pm_op2 st (fun x y st => kg nx lv (.inl (x &&& y) :: st) u) kn
  | .ior => pm_op2 st (fun x y st => kg nx lv (.inl (x ||| y) :: st) u) kn
  | .ishl => pm_op2 st (fun x y st => kg nx lv (.inl (x <<< (y &&& 31)) :: st) u) kn
  | .ishr => pm_op2 st (fun x y st => kg nx lv (.inl (x >>> (y &&& 31)) :: st) u) kn
  | .idiv => pm_op2 st (fun x y st => if y = 0 then kn else kg nx lv (.inl (x / y) :: st) u) kn
  | .irem => pm_op2 st (fun x y st => if y = 0 then kn else kg nx lv (.inl (x - x / y * y) :: st) u) kn
  | .dup => (match st with | v :: st => kg nx lv (v :: v :: st) u | _ => kn)
  | .dup2 => (match st with | v :: w :: st => kg nx lv (v :: w :: v :: w :: st) u | _ => kn)
  | .ifCond cd _ => (match st with | .inl x :: st => pm_br cd x (kg (ax.headD 0) lv st u) (kg nx lv st u) | .inr (.inl b) :: st => pm_brb cd b (kg (ax.headD 0) lv st u) (kg nx lv st u) kn | _ => kn)
  | .if_icmp cd _ => (match st with | .inl y :: .inl x :: st => pm_br2 cd x y (kg (ax.headD 0) lv st u) (kg nx lv st u) | .inr (.inl y) :: .inr (.inl x) :: st => pm_brb2 cd x y (kg (ax.headD 0) lv st u) (kg nx lv st u) kn | _ => kn)
  | .goto _ => kg (ax.headD 0) lv st u
  | .getfield _ => (match ax with | j :: ty :: cis => pm_obj u.1 st (fun k ci st => bif cis.any (Nat.beq ci) then kg nx lv (pm_get ty k j u :: st) u else kn) kn | _ => kn)
  | .putfield _ => (match ax, st with | j :: ty :: _ :: cis, v :: st => pm_obj u.1 st (fun k ci st => bif cis.any (Nat.beq ci) then pm_put ty k j v u (fun u => kg nx lv st u) kn else kn) kn | _, _ => kn)
  | .iaload => pm_ald sc 0 st u (fun v st => kg nx lv (v :: st) u) kn
  | .baload => pm_ald sc 1 st u (fun v st => kg nx lv (v :: st) u) kn
  | .aaload => pm_ald sc 2 st u (fun v st => kg nx lv (v :: st) u) kn
  | .iastore => pm_ast 0 st u (fun st u => kg nx lv st u) kn
  | .bastore => pm_ast 1 st u (fun st u => kg nx lv st u) kn
  | .aastore => pm_asta st u (fun st u => kg nx lv st u) kn
  | .arraylength => (match st with | .inr (.inr (.inr _)) :: st => kg nx lv (.inl (Int32.ofNat sc.1) :: st) u | _ => kn)
  | .new _ => (match ax with | ci :: _ => pm_new (.inl ci) st u (fun st u => kg nx lv st u) kn | _ => kn)
  | .newarray a => (match ax, st with | [t], .inl i :: st => bif !(decide (i < 0)) then pm_new (.inr (t, i.toNatClampNeg)) st u (fun st u => kg nx lv st u) kn else kn | _, _ => kn)
  | .anewarray _ => (match ax, st with | [t], .inl i :: st => bif !(decide (i < 0)) then pm_new (.inr (t, i.toNatClampNeg)) st u (fun st u => kg nx lv st u) kn else kn | _, _ => kn)
  | .invokevirtual _ => (match ax with
    | na :: _ :: ps => (match pm_pop na [] st with
      | some (as, st) => pm_obj u.1 st (fun k ci st => match pm_pair ps ci with
        | some mi => pm_gd st (pm_call1 (fun v u => kg nx lv (v.toList ++ st) u) kn (c mi (.inr (.inr (.inl (some k))) :: as) u)) kn
        | none => kn) kn
      | none => kn)
    | _ => kn)
  | .invokespecial _ => (match ax with
    | [] => (match st with | .inr (.inr (.inl (some _))) :: st => pm_gd st (kg nx lv st u) kn | _ => kn)
    | na :: mi :: _ => (match pm_pop na [] st with
      | some (as, .inr (.inr (.inl (some k))) :: st) => pm_gd st (pm_call1 (fun v u => kg nx lv (v.toList ++ st) u) kn (c mi (.inr (.inr (.inl (some k))) :: as) u)) kn
      | _ => kn)
    | _ => kn)
  | .invokestatic _ => (match ax with
    | [0] => pm_op2 st (fun x y st => pm_gd st (kg nx lv (.inl (if x < y then y else x) :: st) u) kn) kn
    | [1] => pm_op2 st (fun x y st => pm_gd st (kg nx lv (.inl (if y < x then y else x) :: st) u) kn) kn
    | na :: mi :: _ => (match pm_pop na [] st with
      | some (as, st) => pm_gd st (pm_call1 (fun v u => kg nx lv (v.toList ++ st) u) kn (c mi as u)) kn
      | none => kn)
    | _ => kn)
  | .tableswitch _ _ _ _ => (match ax, st with | d :: ts, .inl x :: st => pm_sw x (fun pc => kg pc lv st u) d ts 0 | _, _ => kn)
  | .ireturn => pm_iret rk st u kr kn
  | .areturn => (match rk, st with | 3, [.inr (.inr (.inl q))] => kr (some (.inr (.inr (.inl q))), u) | _, _ => kn)
  | .return_ => (match rk, st with | 0, [] => kr (none, u) | _, _ => kn)
  | _ => kn
def pm_stp (cd : pm_Cd) (pc : Nat) (lv : pm_Lv) (st : List pm_V) (u : pm_S) (kg : Nat → pm_Lv → List pm_V → pm_S → α) (kr : pm_Rs → α) (kn : α) : α := match pm_find cd pc with
  | some (ins, nx, ax) => pm_do c sc rk ins nx ax lv st u kg kr kn
  | none => kn
/-- up to k steps, stopping at pcs that 'cut' names -/
def pm_iter (cd : pm_Cd) (cut : List Nat) : Nat → Nat → pm_Lv → List pm_V → pm_S → (Nat → pm_Lv → List pm_V → pm_S → α) → (pm_Rs → α) → α → α
  | 0, pc, lv, st, u, kg, _, _ => kg pc lv st u
  | k + 1, pc, lv, st, u, kg, kr, kn => pm_stp c sc rk cd pc lv st u (fun pc lv st u => bif cut.any (Nat.beq pc) then kg pc lv st u else pm_iter cd cut k pc lv st u kg kr kn) kr kn
end PMD
abbrev pm_St : Type := Nat × pm_Lv × List pm_V × pm_S
end
section
section PMR
variable {α β : Type} {R : α → β → Prop}
theorem pm_ite_rel {p : Prop} {hd : Decidable p} {a b : α} {a' b' : β} (ha : R a a') (hb : R b b') : R (@ite α p hd a b) (@ite β p hd a' b') := by
  by_cases h : p
  · rw [if_pos h, if_pos h]; exact ha
  · rw [if_neg h, if_neg h]; exact hb
theorem pm_bif_rel {x : Bool} {a b : α} {a' b' : β} (ha : R a a') (hb : R b b') : R (bif x then a else b) (bif x then a' else b') := by
  cases x
  · exact hb
  · exact ha
theorem pm_br_rel {cd : Jvm.ClassFile.Cond} {x : Int32} {a b : α} {a' b' : β} (ha : R a a') (hb : R b b') : R (pm_br cd x a b) (pm_br cd x a' b') := by
  cases cd <;> first | exact pm_ite_rel ha hb | exact pm_ite_rel hb ha
theorem pm_br2_rel {cd : Jvm.ClassFile.Cond} {x y : Int32} {a b : α} {a' b' : β} (ha : R a a') (hb : R b b') : R (pm_br2 cd x y a b) (pm_br2 cd x y a' b') := by
  cases cd <;> first | exact pm_ite_rel ha hb | exact pm_ite_rel hb ha
theorem pm_brb_rel {cd : Jvm.ClassFile.Cond} {x : Bool} {a b d : α} {a' b' d' : β} (ha : R a a') (hb : R b b') (hn : R d d') : R (pm_brb cd x a b d) (pm_brb cd x a' b' d') := by
  cases cd <;> first | exact pm_ite_rel ha hb | exact pm_ite_rel hb ha | exact hn
theorem pm_brb2_rel {cd : Jvm.ClassFile.Cond} {x y : Bool} {a b d : α} {a' b' d' : β} (ha : R a a') (hb : R b b') (hn : R d d') : R (pm_brb2 cd x y a b d) (pm_brb2 cd x y a' b' d') := by
  cases cd <;> first | exact pm_ite_rel ha hb | exact pm_ite_rel hb ha | exact hn
theorem pm_sw_rel {x : Int32} {kg : Nat → α} {kg' : Nat → β} (h : ∀ pc, R (kg pc) (kg' pc)) (d : Nat) : ∀ (ts : List Nat) (v : Nat), R (pm_sw x kg d ts v) (pm_sw x kg' d ts v)
  | [], _ => h d
  | t :: ts, v => pm_ite_rel (h t) (pm_sw_rel h d ts (v + 1))
theorem pm_call1_rel {kg : Option pm_V → pm_S → α} {kg' : Option pm_V → pm_S → β} {kn : α} {kn' : β} {r : Option pm_Rs} (h : ∀ v u, R (kg v u) (kg' v u)) (hn : R kn kn') : R (pm_call1 kg kn r) (pm_call1 kg' kn' r) := by
  rcases r with _ | ⟨v, u⟩
  · exact hn
  · exact h v u
theorem pm_put_rel {ty k j : Nat} {v : pm_V} {u : pm_S} {kg : pm_S → α} {kg' : pm_S → β} {kn : α} {kn' : β} (h : ∀ u, R (kg u) (kg' u)) (hn : R kn kn') : R (pm_put ty k j v u kg kn) (pm_put ty k j v u kg' kn') := by
  rcases ty with _ | _ | _ | ty <;> rcases v with x | b | (_ | q) | _ <;> first | exact hn | exact h _ | exact pm_ite_rel (h _) (pm_ite_rel (h _) hn)
theorem pm_iret_rel {rk : Nat} {st : List pm_V} {u : pm_S} {kr : pm_Rs → α} {kr' : pm_Rs → β} {kn : α} {kn' : β} (h : ∀ r, R (kr r) (kr' r)) (hn : R kn kn') : R (pm_iret rk st u kr kn) (pm_iret rk st u kr' kn') := by
  rcases rk with _ | _ | _ | rk <;> rcases st with _ | ⟨x | b | (_ | q) | _, _ | ⟨v2, st⟩⟩ <;> first | exact hn | exact h _ | exact pm_ite_rel (h _) (pm_ite_rel (h _) hn)
theorem pm_ld_rel {v : Option pm_V} {kg : pm_V → α} {kg' : pm_V → β} {kn : α} {kn' : β} (h : ∀ v, R (kg v) (kg' v)) (hn : R kn kn') : R (pm_ld v kg kn) (pm_ld v kg' kn') := by
  rcases v with _ | x | b | q <;> first | exact hn | exact h _
theorem pm_la_rel {v : Option pm_V} {kg : pm_V → α} {kg' : pm_V → β} {kn : α} {kn' : β} (h : ∀ v, R (kg v) (kg' v)) (hn : R kn kn') : R (pm_la v kg kn) (pm_la v kg' kn') := by
  rcases v with _ | x | b | q <;> first | exact hn | exact h _
theorem pm_si_rel {st : List pm_V} {kg : pm_V → List pm_V → α} {kg' : pm_V → List pm_V → β} {kn : α} {kn' : β} (h : ∀ v st, R (kg v st) (kg' v st)) (hn : R kn kn') : R (pm_si st kg kn) (pm_si st kg' kn') := by
  rcases st with _ | ⟨x | b | q, st⟩ <;> first | exact hn | exact h _ _
theorem pm_sa_rel {st : List pm_V} {kg : pm_V → List pm_V → α} {kg' : pm_V → List pm_V → β} {kn : α} {kn' : β} (h : ∀ v st, R (kg v st) (kg' v st)) (hn : R kn kn') : R (pm_sa st kg kn) (pm_sa st kg' kn') := by
  rcases st with _ | ⟨x | b | q, st⟩ <;> first | exact hn | exact h _ _
theorem pm_op2_rel {st : List pm_V} {kg : Int32 → Int32 → List pm_V → α} {kg' : Int32 → Int32 → List pm_V → β} {kn : α} {kn' : β} (h : ∀ x y st, R (kg x y st) (kg' x y st)) (hn : R kn kn') : R (pm_op2 st kg kn) (pm_op2 st kg' kn') := by
  rcases st with _ | ⟨y | b, _ | ⟨x | b2, st⟩⟩ <;> first | exact hn | exact h _ _ _
theorem pm_obj_rel {n : Nat} {st : List pm_V} {kg : Nat → Nat → List pm_V → α} {kg' : Nat → Nat → List pm_V → β} {kn : α} {kn' : β} (h : ∀ k ci st, R (kg k ci st) (kg' k ci st)) (hn : R kn kn') : R (pm_obj n st kg kn) (pm_obj n st kg' kn') := by
  rcases st with _ | ⟨x | b | (_ | k) | z, st⟩
  · exact hn
  · exact hn
  · exact hn
  · exact hn
  · show R (match pm_cls n k with | some ci => kg k ci st | none => kn) (match pm_cls n k with | some ci => kg' k ci st | none => kn')
    cases pm_cls n k with
    | none => exact hn
    | some ci => exact h _ _ _
  · exact hn
theorem pm_ald_rel {sc : pm_Sc} {t0 : Nat} {st : List pm_V} {u : pm_S} {kg : pm_V → List pm_V → α} {kg' : pm_V → List pm_V → β} {kn : α} {kn' : β} (h : ∀ v st, R (kg v st) (kg' v st)) (hn : R kn kn') : R (pm_ald sc t0 st u kg kn) (pm_ald sc t0 st u kg' kn') := by
  rcases st with _ | ⟨i | v, _ | ⟨x | b | (_ | k) | z, st⟩⟩ <;> first | exact hn | exact pm_bif_rel (h _ _) hn | skip
  show R (match pm_arr u.1 k with | some (t, len) => _ | none => kn) (match pm_arr u.1 k with | some (t, len) => _ | none => kn')
  rcases pm_arr u.1 k with _ | ⟨t, len⟩
  · exact hn
  · exact pm_bif_rel (h _ _) hn
theorem pm_ast_rel {t0 : Nat} {st : List pm_V} {u : pm_S} {kg : List pm_V → pm_S → α} {kg' : List pm_V → pm_S → β} {kn : α} {kn' : β} (h : ∀ st u, R (kg st u) (kg' st u)) (hn : R kn kn') : R (pm_ast t0 st u kg kn) (pm_ast t0 st u kg' kn') := by
  rcases st with _ | ⟨v, _ | ⟨i | i, _ | ⟨x | b | (_ | k) | z, st⟩⟩⟩ <;> first | exact hn | skip
  show R (match pm_arr u.1 k with | some (t, len) => _ | none => kn) (match pm_arr u.1 k with | some (t, len) => _ | none => kn')
  rcases pm_arr u.1 k with _ | ⟨t, len⟩
  · exact hn
  · exact pm_bif_rel (pm_put_rel (fun u => h _ u) hn) hn
theorem pm_asta_rel {st : List pm_V} {u : pm_S} {kg : List pm_V → pm_S → α} {kg' : List pm_V → pm_S → β} {kn : α} {kn' : β} (h : ∀ st u, R (kg st u) (kg' st u)) (hn : R kn kn') : R (pm_asta st u kg kn) (pm_asta st u kg' kn') := by
  rcases st with _ | ⟨y | d | (_ | q) | w, _ | ⟨i | i, _ | ⟨x | b | (_ | k) | z, st⟩⟩⟩ <;> first | exact hn | skip
  show R (match pm_arr u.1 k, pm_cls u.1 q with | some (t, len), some ci => _ | _, _ => kn) (match pm_arr u.1 k, pm_cls u.1 q with | some (t, len), some ci => _ | _, _ => kn')
  rcases pm_arr u.1 k with _ | ⟨t, len⟩ <;> rcases pm_cls u.1 q with _ | ci <;> first | exact hn | exact pm_bif_rel (h _ _) hn
theorem pm_new_rel {d : pm_Kd} {st : List pm_V} {u : pm_S} {kg : List pm_V → pm_S → α} {kg' : List pm_V → pm_S → β} {kn : α} {kn' : β} (h : ∀ st u, R (kg st u) (kg' st u)) (hn : R kn kn') : R (pm_new d st u kg kn) (pm_new d st u kg' kn') := by
  unfold pm_new
  rcases pm_kd u.1 with _ | a | ⟨a, x⟩ <;> rcases d with b | ⟨b, y⟩ <;> first | exact hn | exact pm_bif_rel (h _ _) hn
variable {c : Nat → List pm_V → pm_S → Option pm_Rs} {sc : pm_Sc} {rk : Nat}
/-- two runs of one step, with continuations that stand in R, stand in R -/
theorem pm_do_rel {ins : Jvm.ClassFile.Instr} {nx : Nat} {ax : List Nat} {lv : pm_Lv} {st : List pm_V} {u : pm_S} {kg : Nat → pm_Lv → List pm_V → pm_S → α} {kg' : Nat → pm_Lv → List pm_V → pm_S → β} {kr : pm_Rs → α} {kr' : pm_Rs → β} {kn : α} {kn' : β}
    (h : ∀ pc lv st u, R (kg pc lv st u) (kg' pc lv st u)) (hr : ∀ r, R (kr r) (kr' r)) (hn : R kn kn') : R (pm_do c sc rk ins nx ax lv st u kg kr kn) (pm_do c sc rk ins nx ax lv st u kg' kr' kn') := by
  cases ins
  case iload_n k => (simp only [pm_do]; exact pm_ld_rel (fun _ => h _ _ _ _) hn)
  case iload k => (simp only [pm_do]; exact pm_ld_rel (fun _ => h _ _ _ _) hn)
  case aload_n k => (simp only [pm_do]; exact pm_la_rel (fun _ => h _ _ _ _) hn)
  case aload k => (simp only [pm_do]; exact pm_la_rel (fun _ => h _ _ _ _) hn)
  case istore_n k => (simp only [pm_do]; exact pm_si_rel (fun _ _ => h _ _ _ _) hn)
  case istore k => (simp only [pm_do]; exact pm_si_rel (fun _ _ => h _ _ _ _) hn)
  case astore_n k => (simp only [pm_do]; exact pm_sa_rel (fun _ _ => h _ _ _ _) hn)
  case astore k => (simp only [pm_do]; exact pm_sa_rel (fun _ _ => h _ _ _ _) hn)
  case iinc i n =>
    show R (match pm_lget lv i with | some (.inl x) => kg nx (pm_lset lv i (.inl (x + Int32.ofInt n))) st u | _ => kn) (match pm_lget lv i with | some (.inl x) => kg' nx (pm_lset lv i (.inl (x + Int32.ofInt n))) st u | _ => kn')
    rcases pm_lget lv i with _ | x | b <;> first | exact hn | exact h _ _ _ _
  case iadd => exact pm_op2_rel (fun _ _ _ => h _ _ _ _) hn
  case isub => exact pm_op2_rel (fun _ _ _ => h _ _ _ _) hn
  case imul => exact pm_op2_rel (fun _ _ _ => h _ _ _ _) hn
  case iand => exact pm_op2_rel (fun _ _ _ => h _ _ _ _) hn
  case ior => exact pm_op2_rel (fun _ _ _ => h _ _ _ _) hn
  case ishl => exact pm_op2_rel (fun _ _ _ => h _ _ _ _) hn
  case ishr => exact pm_op2_rel (fun _ _ _ => h _ _ _ _) hn
  case idiv => exact pm_op2_rel (fun _ _ _ => pm_ite_rel hn (h _ _ _ _)) hn
  case irem => exact pm_op2_rel (fun _ _ _ => pm_ite_rel hn (h _ _ _ _)) hn
  case dup => rcases st with _ | ⟨v, st⟩ <;> first | exact hn | exact h _ _ _ _
  case dup2 => rcases st with _ | ⟨v, _ | ⟨w, st⟩⟩ <;> first | exact hn | exact h _ _ _ _
  case ifCond cd off => rcases st with _ | ⟨x | b | q, st⟩ <;> first | exact hn | exact pm_br_rel (h _ _ _ _) (h _ _ _ _) | exact pm_brb_rel (h _ _ _ _) (h _ _ _ _) hn
  case if_icmp cd off => rcases st with _ | ⟨y | y | q, _ | ⟨x | x | q2, st⟩⟩ <;> first | exact hn | exact pm_br2_rel (h _ _ _ _) (h _ _ _ _) | exact pm_brb2_rel (h _ _ _ _) (h _ _ _ _) hn
  case getfield i => rcases ax with _ | ⟨j, _ | ⟨ty, cis⟩⟩ <;> first | exact hn | exact pm_obj_rel (fun _ _ _ => pm_bif_rel (h _ _ _ _) hn) hn
  case putfield i => rcases ax with _ | ⟨j, _ | ⟨ty, _ | ⟨fi, cis⟩⟩⟩ <;> rcases st with _ | ⟨v, st⟩ <;> first | exact hn | exact pm_obj_rel (fun _ _ _ => pm_bif_rel (pm_put_rel (fun _ => h _ _ _ _) hn) hn) hn
  case iaload => exact pm_ald_rel (fun _ _ => h _ _ _ _) hn
  case baload => exact pm_ald_rel (fun _ _ => h _ _ _ _) hn
  case aaload => exact pm_ald_rel (fun _ _ => h _ _ _ _) hn
  case iastore => exact pm_ast_rel (fun _ _ => h _ _ _ _) hn
  case bastore => exact pm_ast_rel (fun _ _ => h _ _ _ _) hn
  case aastore => exact pm_asta_rel (fun _ _ => h _ _ _ _) hn
  case arraylength => rcases st with _ | ⟨x | b | q | z, st⟩ <;> first | exact hn | exact h _ _ _ _
  case new i => rcases ax with _ | ⟨ci, ax⟩ <;> first | exact hn | exact pm_new_rel (fun _ _ => h _ _ _ _) hn
  case newarray a => rcases ax with _ | ⟨t, _ | ⟨t2, ax⟩⟩ <;> rcases st with _ | ⟨x | b, st⟩ <;> first | exact hn | exact pm_bif_rel (pm_new_rel (fun _ _ => h _ _ _ _) hn) hn
  case anewarray a => rcases ax with _ | ⟨t, _ | ⟨t2, ax⟩⟩ <;> rcases st with _ | ⟨x | b, st⟩ <;> first | exact hn | exact pm_bif_rel (pm_new_rel (fun _ _ => h _ _ _ _) hn) hn
  case invokevirtual i =>
    rcases ax with _ | ⟨na, _ | ⟨xn, ps⟩⟩ <;> first | exact hn | skip
    show R (match pm_pop na [] st with | some (as, st) => _ | none => kn) (match pm_pop na [] st with | some (as, st) => _ | none => kn')
    rcases pm_pop na [] st with _ | ⟨as, st⟩
    · exact hn
    · refine pm_obj_rel (fun k ci st => ?_) hn
      show R (match pm_pair ps ci with | some mi => _ | none => kn) (match pm_pair ps ci with | some mi => _ | none => kn')
      rcases pm_pair ps ci with _ | mi
      · exact hn
      · exact pm_bif_rel (pm_call1_rel (fun _ _ => h _ _ _ _) hn) hn
  case invokespecial i =>
    rcases ax with _ | ⟨na, _ | ⟨mi, ax⟩⟩
    · rcases st with _ | ⟨x | b | (_ | k) | z, st⟩ <;> first | exact hn | exact pm_bif_rel (h _ _ _ _) hn
    · exact hn
    · show R (match pm_pop na [] st with | some (as, .inr (.inr (.inl (some k))) :: st) => _ | _ => kn) (match pm_pop na [] st with | some (as, .inr (.inr (.inl (some k))) :: st) => _ | _ => kn')
      rcases pm_pop na [] st with _ | ⟨as, _ | ⟨x | b | (_ | k) | z, st⟩⟩ <;> first | exact hn | exact pm_bif_rel (pm_call1_rel (fun _ _ => h _ _ _ _) hn) hn
  case invokestatic i =>
    rcases ax with _ | ⟨na, _ | ⟨mi, ax⟩⟩
    · exact hn
    · rcases na with _ | _ | na <;> first | exact hn | exact pm_op2_rel (fun _ _ _ => pm_bif_rel (h _ _ _ _) hn) hn
    · have key : R (match pm_pop na [] st with | some (as, st) => pm_gd st (pm_call1 (fun v u => kg nx lv (v.toList ++ st) u) kn (c mi as u)) kn | none => kn) (match pm_pop na [] st with | some (as, st) => pm_gd st (pm_call1 (fun v u => kg' nx lv (v.toList ++ st) u) kn' (c mi as u)) kn' | none => kn') := by
        rcases pm_pop na [] st with _ | ⟨as, st⟩
        · exact hn
        · exact pm_bif_rel (pm_call1_rel (fun _ _ => h _ _ _ _) hn) hn
      rcases na with _ | _ | na <;> exact key
  case tableswitch d lo hi offs => rcases ax with _ | ⟨d, ts⟩ <;> rcases st with _ | ⟨x | b, st⟩ <;> first | exact hn | exact pm_sw_rel (fun _ => h _ _ _ _) _ _ _
  case ireturn => exact pm_iret_rel hr hn
  case areturn => rcases rk with _ | _ | _ | _ | rk <;> rcases st with _ | ⟨x | b | q | z, _ | ⟨v2, st⟩⟩ <;> first | exact hn | exact hr _
  case return_ => rcases rk with _ | rk <;> rcases st with _ | ⟨x, st⟩ <;> first | exact hn | exact hr _
  all_goals first | exact h _ _ _ _ | exact hn
theorem pm_stp_rel {cd : pm_Cd} {pc : Nat} {lv : pm_Lv} {st : List pm_V} {u : pm_S} {kg : Nat → pm_Lv → List pm_V → pm_S → α} {kg' : Nat → pm_Lv → List pm_V → pm_S → β} {kr : pm_Rs → α} {kr' : pm_Rs → β} {kn : α} {kn' : β}
    (h : ∀ pc lv st u, R (kg pc lv st u) (kg' pc lv st u)) (hr : ∀ r, R (kr r) (kr' r)) (hn : R kn kn') : R (pm_stp c sc rk cd pc lv st u kg kr kn) (pm_stp c sc rk cd pc lv st u kg' kr' kn') := by
  unfold pm_stp
  rcases pm_find cd pc with _ | ⟨ins, nx, ax⟩
  · exact hn
  · exact pm_do_rel h hr hn
end PMR
section PME
variable (c : Nat → List pm_V → pm_S → Option pm_Rs) (sc : pm_Sc) (rk : Nat) (cd : pm_Cd)
def pm_loop : Nat → Nat → pm_Lv → List pm_V → pm_S → Option pm_Rs
  | 0, _, _, _, _ => none
  | f + 1, pc, lv, st, u => pm_stp c sc rk cd pc lv st u (pm_loop f) some none
noncomputable def pm_ev (pc : Nat) (lv : pm_Lv) (st : List pm_V) (u : pm_S) : Option pm_Rs := @dite _ (∃ f r, pm_loop c sc rk cd f pc lv st u = some r) (Classical.propDecidable _) (fun h => pm_loop c sc rk cd (Classical.choose h) pc lv st u) (fun _ => none)
end PME
section PMF
variable {c : Nat → List pm_V → pm_S → Option pm_Rs} {sc : pm_Sc} {rk : Nat} {cd : pm_Cd}
theorem pm_loop_up {r : pm_Rs} : ∀ (f : Nat) (pc : Nat) (lv : pm_Lv) (st : List pm_V) (u : pm_S), pm_loop c sc rk cd f pc lv st u = some r → pm_loop c sc rk cd (f + 1) pc lv st u = some r
  | 0, _, _, _, _, h => by cases h
  | f + 1, pc, lv, st, u, h => by
    revert h
    exact pm_stp_rel (R := fun a b => a = some r → b = some r) (fun pc lv st u => pm_loop_up f pc lv st u) (fun _ h => h) (fun h => h)
theorem pm_loop_le {r : pm_Rs} {f g : Nat} (hfg : f ≤ g) {pc : Nat} {lv : pm_Lv} {st : List pm_V} {u : pm_S} (h : pm_loop c sc rk cd f pc lv st u = some r) : pm_loop c sc rk cd g pc lv st u = some r := by
  induction hfg with
  | refl => exact h
  | step _ ih => exact pm_loop_up _ _ _ _ _ ih
theorem pm_ev_of {r : pm_Rs} {f pc : Nat} {lv : pm_Lv} {st : List pm_V} {u : pm_S} (h : pm_loop c sc rk cd f pc lv st u = some r) : pm_ev c sc rk cd pc lv st u = some r := by
  have he : ∃ f r, pm_loop c sc rk cd f pc lv st u = some r := ⟨f, r, h⟩
  unfold pm_ev
  rw [dif_pos he]
  obtain ⟨r', hr'⟩ := Classical.choose_spec he
  have h1 := pm_loop_le (Nat.le_max_left (Classical.choose he) f) hr'
  have h2 := pm_loop_le (Nat.le_max_right (Classical.choose he) f) h
  rw [h1] at h2
  rw [hr', h2]
theorem pm_ev_some {r : pm_Rs} {pc : Nat} {lv : pm_Lv} {st : List pm_V} {u : pm_S} (h : pm_ev c sc rk cd pc lv st u = some r) : ∃ f, pm_loop c sc rk cd f pc lv st u = some r := by
  unfold pm_ev at h
  by_cases he : ∃ f r, pm_loop c sc rk cd f pc lv st u = some r
  · rw [dif_pos he] at h
    exact ⟨_, h⟩
  · rw [dif_neg he] at h
    cases h
/-- one step on -/
theorem pm_ev_step (pc : Nat) (lv : pm_Lv) (st : List pm_V) (u : pm_S) : pm_ev c sc rk cd pc lv st u = pm_stp c sc rk cd pc lv st u (pm_ev c sc rk cd) some none := by
  have key : ∀ f, pm_loop c sc rk cd f = fun pc lv st u => pm_loop c sc rk cd f pc lv st u := fun _ => rfl
  -- the step, as data
  have hd : ∀ (γ : Type) (kg : Nat → pm_Lv → List pm_V → pm_S → γ) (kr : pm_Rs → γ) (kn : γ), pm_stp c sc rk cd pc lv st u kg kr kn = (match pm_stp (α := pm_St ⊕ Option pm_Rs) c sc rk cd pc lv st u (fun pc lv st u => .inl (pc, lv, st, u)) (fun r => .inr (some r)) (.inr none) with
      | .inl (pc, lv, st, u) => kg pc lv st u
      | .inr (some r) => kr r
      | .inr none => kn) := by
    intro γ kg kr kn
    exact pm_stp_rel (R := fun (a : γ) (t : pm_St ⊕ Option pm_Rs) => a = (match t with | .inl (pc, lv, st, u) => kg pc lv st u | .inr (some r) => kr r | .inr none => kn)) (fun _ _ _ _ => rfl) (fun _ => rfl) rfl
  have hl : ∀ f, pm_loop c sc rk cd (f + 1) pc lv st u = pm_stp c sc rk cd pc lv st u (pm_loop c sc rk cd f) some none := fun _ => rfl
  rw [hd]
  rcases ht : pm_stp (α := pm_St ⊕ Option pm_Rs) c sc rk cd pc lv st u (fun pc lv st u => .inl (pc, lv, st, u)) (fun r => .inr (some r)) (.inr none) with ⟨pc', lv', st', u'⟩ | _ | r
  · have h1 : ∀ f, pm_loop c sc rk cd (f + 1) pc lv st u = pm_loop c sc rk cd f pc' lv' st' u' := fun f => by rw [hl, hd, ht]
    show pm_ev c sc rk cd pc lv st u = pm_ev c sc rk cd pc' lv' st' u'
    cases hv : pm_ev c sc rk cd pc' lv' st' u' with
    | some r =>
      obtain ⟨f, hf⟩ := pm_ev_some hv
      exact pm_ev_of (f := f + 1) (by rw [h1]; exact hf)
    | none =>
      cases hw : pm_ev c sc rk cd pc lv st u with
      | none => rfl
      | some r =>
        obtain ⟨f, hf⟩ := pm_ev_some hw
        have hf1 := pm_loop_up _ _ _ _ _ hf
        rw [h1] at hf1
        rw [pm_ev_of hf1] at hv
        cases hv
  · show pm_ev c sc rk cd pc lv st u = none
    cases hw : pm_ev c sc rk cd pc lv st u with
    | none => rfl
    | some r =>
      obtain ⟨f, hf⟩ := pm_ev_some hw
      have hf1 := pm_loop_up _ _ _ _ _ hf
      rw [hl, hd, ht] at hf1
      cases hf1
  · show pm_ev c sc rk cd pc lv st u = some r
    exact pm_ev_of (f := 1) (by rw [hl, hd, ht])
/-- k steps on -/
theorem pm_ev_iter (cut : List Nat) : ∀ (k : Nat) (pc : Nat) (lv : pm_Lv) (st : List pm_V) (u : pm_S), pm_ev c sc rk cd pc lv st u = pm_iter c sc rk cd cut k pc lv st u (pm_ev c sc rk cd) some none
  | 0, _, _, _, _ => rfl
  | k + 1, pc, lv, st, u => by
    rw [pm_ev_step]
    show _ = pm_stp c sc rk cd pc lv st u (fun pc lv st u => bif cut.any (Nat.beq pc) then pm_ev c sc rk cd pc lv st u else pm_iter c sc rk cd cut k pc lv st u (pm_ev c sc rk cd) some none) some none
    refine pm_stp_rel (R := fun a b => a = b) (fun pc lv st u => ?_) (fun _ => rfl) rfl
    cases cut.any (Nat.beq pc)
    · exact pm_ev_iter cut k pc lv st u
    · rfl
end PMF
def pm_args : Nat → List pm_V → pm_Lv
  | _, [] => []
  | i, v :: vs => (i, v) :: pm_args (i + 1) vs
/-- the machine's calls, to a depth; T: code and kind of answer of each method -/
noncomputable def pm_call (T : Nat → pm_Cd × Nat) (sc : pm_Sc) : Nat → Nat → List pm_V → pm_S → Option pm_Rs
  | 0, mi, av, u => pm_ev (fun _ _ _ => none) sc (T mi).2 (T mi).1 0 (pm_args 0 av) [] u
  | d + 1, mi, av, u => pm_ev (pm_call T sc d) sc (T mi).2 (T mi).1 0 (pm_args 0 av) [] u
/-! places never go away -/
section PMN
variable {c : Nat → List pm_V → pm_S → Option pm_Rs} {sc : pm_Sc} {rk : Nat} {cd : pm_Cd}
theorem pm_put_n {ty k j : Nat} {v : pm_V} {u : pm_S} {kg : pm_S → Prop} {kn : Prop} (h : ∀ u' : pm_S, u'.1 = u.1 → kg u') (hn : kn) : pm_put ty k j v u kg kn := by
  rcases ty with _ | _ | _ | ty <;> rcases v with x | b | (_ | q) | _ <;> first | exact hn | exact h _ rfl | skip
  show if x = 0 then _ else if x = 1 then _ else _
  split
  · exact h _ rfl
  · split
    · exact h _ rfl
    · exact hn
theorem pm_bif_t {x : Bool} {a b : Prop} (ha : a) (hb : b) : (bif x then a else b) := by
  cases x
  · exact hb
  · exact ha
theorem pm_ite_t {p : Prop} {hd : Decidable p} {a b : Prop} (ha : a) (hb : b) : @ite Prop p hd a b := by
  by_cases h : p
  · rw [if_pos h]; exact ha
  · rw [if_neg h]; exact hb
theorem pm_do_all {P : pm_S → Prop} {ins : Jvm.ClassFile.Instr} {nx : Nat} {ax : List Nat} {lv : pm_Lv} {st : List pm_V} {u : pm_S} (h1 : ∀ u' : pm_S, u'.1 = u.1 → P u') (h2 : P (pm_made u)) (h3 : ∀ mi av v u', c mi av u = some (v, u') → P u') : pm_do c sc rk ins nx ax lv st u (fun _ _ _ u' => P u') (fun r => P r.2) True := by
  have h0 : P u := h1 u rfl
  have hc : ∀ mi av, pm_call1 (fun (_ : Option pm_V) u' => P u') True (c mi av u) := by
    intro mi av
    cases hcm : c mi av u with
    | none => exact trivial
    | some q => exact h3 mi av q.1 q.2 hcm
  have hnew : ∀ (d : pm_Kd) (st : List pm_V), pm_new d st u (fun _ u' => P u') True := by
    intro d st
    unfold pm_new
    rcases pm_kd u.1 with _ | a | ⟨a, x⟩ <;> rcases d with b | ⟨b, y⟩ <;> first | exact trivial | exact pm_bif_t h2 trivial
  have hobj : ∀ (st : List pm_V) (kg : Nat → Nat → List pm_V → Prop), (∀ k ci st, kg k ci st) → pm_obj u.1 st kg True := fun st kg h => pm_obj_rel (R := fun (_ : Unit) (p : Prop) => p) (kg := fun _ _ _ => ()) (kn := ()) h trivial
  cases ins
  case iload_n k => exact pm_ld_rel (R := fun (_ : Unit) (p : Prop) => p) (kg := fun _ => ()) (kn := ()) (fun _ => h0) trivial
  case iload k => exact pm_ld_rel (R := fun (_ : Unit) (p : Prop) => p) (kg := fun _ => ()) (kn := ()) (fun _ => h0) trivial
  case aload_n k => exact pm_la_rel (R := fun (_ : Unit) (p : Prop) => p) (kg := fun _ => ()) (kn := ()) (fun _ => h0) trivial
  case aload k => exact pm_la_rel (R := fun (_ : Unit) (p : Prop) => p) (kg := fun _ => ()) (kn := ()) (fun _ => h0) trivial
  case istore_n k => exact pm_si_rel (R := fun (_ : Unit) (p : Prop) => p) (kg := fun _ _ => ()) (kn := ()) (fun _ _ => h0) trivial
  case istore k => exact pm_si_rel (R := fun (_ : Unit) (p : Prop) => p) (kg := fun _ _ => ()) (kn := ()) (fun _ _ => h0) trivial
  case astore_n k => exact pm_sa_rel (R := fun (_ : Unit) (p : Prop) => p) (kg := fun _ _ => ()) (kn := ()) (fun _ _ => h0) trivial
  case astore k => exact pm_sa_rel (R := fun (_ : Unit) (p : Prop) => p) (kg := fun _ _ => ()) (kn := ()) (fun _ _ => h0) trivial
  case iinc i n =>
    show (match pm_lget lv i with | some (.inl x) => P u | _ => True)
    rcases pm_lget lv i with _ | x | b <;> first | exact trivial | exact h0
  case iadd => exact pm_op2_rel (R := fun (_ : Unit) (p : Prop) => p) (kg := fun _ _ _ => ()) (kn := ()) (fun _ _ _ => h0) trivial
  case isub => exact pm_op2_rel (R := fun (_ : Unit) (p : Prop) => p) (kg := fun _ _ _ => ()) (kn := ()) (fun _ _ _ => h0) trivial
  case imul => exact pm_op2_rel (R := fun (_ : Unit) (p : Prop) => p) (kg := fun _ _ _ => ()) (kn := ()) (fun _ _ _ => h0) trivial
  case iand => exact pm_op2_rel (R := fun (_ : Unit) (p : Prop) => p) (kg := fun _ _ _ => ()) (kn := ()) (fun _ _ _ => h0) trivial
  case ior => exact pm_op2_rel (R := fun (_ : Unit) (p : Prop) => p) (kg := fun _ _ _ => ()) (kn := ()) (fun _ _ _ => h0) trivial
  case ishl => exact pm_op2_rel (R := fun (_ : Unit) (p : Prop) => p) (kg := fun _ _ _ => ()) (kn := ()) (fun _ _ _ => h0) trivial
  case ishr => exact pm_op2_rel (R := fun (_ : Unit) (p : Prop) => p) (kg := fun _ _ _ => ()) (kn := ()) (fun _ _ _ => h0) trivial
  case idiv => exact pm_op2_rel (R := fun (_ : Unit) (p : Prop) => p) (kg := fun _ _ _ => ()) (kn := ()) (fun _ _ _ => pm_ite_t trivial h0) trivial
  case irem => exact pm_op2_rel (R := fun (_ : Unit) (p : Prop) => p) (kg := fun _ _ _ => ()) (kn := ()) (fun _ _ _ => pm_ite_t trivial h0) trivial
  case dup => rcases st with _ | ⟨v, st⟩ <;> first | exact trivial | exact h0
  case dup2 => rcases st with _ | ⟨v, _ | ⟨w, st⟩⟩ <;> first | exact trivial | exact h0
  case ifCond cd off => rcases st with _ | ⟨x | b | q, st⟩ <;> first | exact trivial | exact pm_br_rel (R := fun (_ : Unit) (p : Prop) => p) (a := ()) (b := ()) h0 h0 | exact pm_brb_rel (R := fun (_ : Unit) (p : Prop) => p) (a := ()) (b := ()) (d := ()) h0 h0 trivial
  case if_icmp cd off => rcases st with _ | ⟨y | y | q, _ | ⟨x | x | q2, st⟩⟩ <;> first | exact trivial | exact pm_br2_rel (R := fun (_ : Unit) (p : Prop) => p) (a := ()) (b := ()) h0 h0 | exact pm_brb2_rel (R := fun (_ : Unit) (p : Prop) => p) (a := ()) (b := ()) (d := ()) h0 h0 trivial
  case getfield i => rcases ax with _ | ⟨j, _ | ⟨ty, cis⟩⟩ <;> first | exact trivial | exact hobj _ _ (fun _ _ _ => pm_bif_t h0 trivial)
  case putfield i => rcases ax with _ | ⟨j, _ | ⟨ty, _ | ⟨fi, cis⟩⟩⟩ <;> rcases st with _ | ⟨v, st⟩ <;> first | exact trivial | exact hobj _ _ (fun _ _ _ => pm_bif_t (pm_put_n h1 trivial) trivial)
  case iaload => exact pm_ald_rel (R := fun (_ : Unit) (p : Prop) => p) (kg := fun _ _ => ()) (kn := ()) (fun _ _ => h0) trivial
  case baload => exact pm_ald_rel (R := fun (_ : Unit) (p : Prop) => p) (kg := fun _ _ => ()) (kn := ()) (fun _ _ => h0) trivial
  case aaload => exact pm_ald_rel (R := fun (_ : Unit) (p : Prop) => p) (kg := fun _ _ => ()) (kn := ()) (fun _ _ => h0) trivial
  case iastore =>
    rcases st with _ | ⟨v, _ | ⟨i | i, _ | ⟨x | b | (_ | k) | z, st⟩⟩⟩ <;> first | exact trivial | skip
    show (match pm_arr u.1 k with | some (t, len) => _ | none => True)
    rcases pm_arr u.1 k with _ | ⟨t, len⟩
    · exact trivial
    · exact pm_bif_t (pm_put_n h1 trivial) trivial
  case bastore =>
    rcases st with _ | ⟨v, _ | ⟨i | i, _ | ⟨x | b | (_ | k) | z, st⟩⟩⟩ <;> first | exact trivial | skip
    show (match pm_arr u.1 k with | some (t, len) => _ | none => True)
    rcases pm_arr u.1 k with _ | ⟨t, len⟩
    · exact trivial
    · exact pm_bif_t (pm_put_n h1 trivial) trivial
  case aastore =>
    rcases st with _ | ⟨y | d | (_ | q) | w, _ | ⟨i | i, _ | ⟨x | b | (_ | k) | z, st⟩⟩⟩ <;> first | exact trivial | skip
    show (match pm_arr u.1 k, pm_cls u.1 q with | some (t, len), some ci => _ | _, _ => True)
    rcases pm_arr u.1 k with _ | ⟨t, len⟩ <;> rcases pm_cls u.1 q with _ | ci <;> first | exact trivial | exact pm_bif_t (h1 _ rfl) trivial
  case arraylength => rcases st with _ | ⟨x | b | q | z, st⟩ <;> first | exact trivial | exact h0
  case new i => rcases ax with _ | ⟨ci, ax⟩ <;> first | exact trivial | (simp only [pm_do]; exact hnew (.inl ci) st)
  case newarray a => rcases ax with _ | ⟨t, _ | ⟨t2, ax⟩⟩ <;> rcases st with _ | ⟨x | b, st⟩ <;> first | exact trivial | exact pm_bif_t (hnew _ _) trivial
  case anewarray a => rcases ax with _ | ⟨t, _ | ⟨t2, ax⟩⟩ <;> rcases st with _ | ⟨x | b, st⟩ <;> first | exact trivial | exact pm_bif_t (hnew _ _) trivial
  case invokevirtual i =>
    rcases ax with _ | ⟨na, _ | ⟨xn, ps⟩⟩ <;> first | exact trivial | skip
    show (match pm_pop na [] st with | some (as, st) => _ | none => True)
    rcases pm_pop na [] st with _ | ⟨as, st⟩
    · exact trivial
    · refine hobj _ _ (fun k ci st => ?_)
      show (match pm_pair ps ci with | some mi => _ | none => True)
      rcases pm_pair ps ci with _ | mi
      · exact trivial
      · exact pm_bif_t (hc _ _) trivial
  case invokespecial i =>
    rcases ax with _ | ⟨na, _ | ⟨mi, ax⟩⟩
    · rcases st with _ | ⟨x | b | (_ | k) | z, st⟩ <;> first | exact trivial | exact pm_bif_t h0 trivial
    · exact trivial
    · show (match pm_pop na [] st with | some (as, .inr (.inr (.inl (some k))) :: st) => _ | _ => True)
      rcases pm_pop na [] st with _ | ⟨as, _ | ⟨x | b | (_ | k) | z, st⟩⟩ <;> first | exact trivial | exact pm_bif_t (hc _ _) trivial
  case invokestatic i =>
    rcases ax with _ | ⟨na, _ | ⟨mi, ax⟩⟩
    · exact trivial
    · rcases na with _ | _ | na <;> first | exact trivial | exact pm_op2_rel (R := fun (_ : Unit) (p : Prop) => p) (kg := fun _ _ _ => ()) (kn := ()) (fun _ _ _ => pm_bif_t h0 trivial) trivial
    · have key : (match pm_pop na [] st with | some (as, st) => pm_gd st (pm_call1 (fun (_ : Option pm_V) u' => P u') True (c mi as u)) True | none => True) := by
        rcases pm_pop na [] st with _ | ⟨as, st⟩
        · exact trivial
        · exact pm_bif_t (hc _ _) trivial
      rcases na with _ | _ | na <;> exact key
  case tableswitch d lo hi offs => rcases ax with _ | ⟨d, ts⟩ <;> rcases st with _ | ⟨x | b, st⟩ <;> first | exact trivial | exact pm_sw_rel (R := fun (_ : Unit) (p : Prop) => p) (kg := fun _ => ()) (fun _ => h0) _ _ _
  case ireturn => rcases rk with _ | _ | _ | rk <;> rcases st with _ | ⟨x | b | (_ | q) | _, _ | ⟨v2, st⟩⟩ <;> first | exact trivial | exact h0 | exact pm_ite_t h0 (pm_ite_t h0 trivial)
  case areturn => rcases rk with _ | _ | _ | _ | rk <;> rcases st with _ | ⟨x | b | q | z, _ | ⟨v2, st⟩⟩ <;> first | exact trivial | exact h0
  case return_ => rcases rk with _ | rk <;> rcases st with _ | ⟨x, st⟩ <;> first | exact trivial | exact h0
  all_goals first | exact h0 | exact trivial
theorem pm_loop_n (hc : ∀ mi av u v u', c mi av u = some (v, u') → u.1 ≤ u'.1) {r : pm_Rs} : ∀ (f : Nat) (pc : Nat) (lv : pm_Lv) (st : List pm_V) (u : pm_S), pm_loop c sc rk cd f pc lv st u = some r → u.1 ≤ r.2.1
  | 0, _, _, _, _, h => by cases h
  | f + 1, pc, lv, st, u, h => by
    have hP : pm_stp c sc rk cd pc lv st u (fun _ _ _ u' => u.1 ≤ u'.1) (fun r => u.1 ≤ r.2.1) True := by
      unfold pm_stp
      rcases pm_find cd pc with _ | ⟨ins, nx, ax⟩
      · exact trivial
      · exact pm_do_all (P := fun u' => u.1 ≤ u'.1) (fun u' e => Nat.le_of_eq e.symm) (Nat.le_succ _) (fun mi av v u' hv => hc mi av u v u' hv)
    revert h hP
    exact pm_stp_rel (R := fun (a : Option pm_Rs) (p : Prop) => a = some r → p → u.1 ≤ r.2.1) (fun pc lv st u' h hP => Nat.le_trans hP (pm_loop_n hc f pc lv st u' h)) (fun r' h hP => by cases h; exact hP) (fun h => by cases h)
end PMN
theorem pm_call_n {T : Nat → pm_Cd × Nat} {sc : pm_Sc} : ∀ (d mi : Nat) (av : List pm_V) (u : pm_S) (v : Option pm_V) (u' : pm_S), pm_call T sc d mi av u = some (v, u') → u.1 ≤ u'.1
  | 0, mi, av, u, v, u', h => by
    obtain ⟨f, hf⟩ := pm_ev_some h
    exact pm_loop_n (r := (v, u')) (fun _ _ _ _ _ h => by cases h) f _ _ _ _ hf
  | d + 1, mi, av, u, v, u', h => by
    obtain ⟨f, hf⟩ := pm_ev_some h
    exact pm_loop_n (r := (v, u')) (fun mi av u v u' h => pm_call_n d mi av u v u' h) f _ _ _ _ hf
end
section
/-! The memory of places in the model's heap: place k stands at z + k, z the heap's size at the law's start; all that is made since is a place, in the order of making. -/
def pm_cn (k : Nat) : String := ["PlatformDoors", "PlatformDoors$Frame", "PlatformDoors$Leaf", "PlatformDoors$Line", "PlatformDoors$Platform", "PlatformDoors$Train", "PlatformDoorsModel", "PlatformDoors$Side", "PlatformDoorsLaw"].getD k ""
abbrev pm_Fd : Type := String × String × String × Bool × Nat
def pm_side : List pm_Fd := [("PlatformDoors$Side", "leaves", "[LPlatformDoors$Leaf;", true, 2), ("PlatformDoors$Side", "newest", "LPlatformDoors$Frame;", true, 2), ("PlatformDoors$Side", "incoming", "LPlatformDoors$Line;", true, 2), ("PlatformDoors$Side", "outgoing", "LPlatformDoors$Line;", true, 2), ("PlatformDoors$Side", "steps", "I", false, 0), ("PlatformDoors$Side", "state", "I", false, 0), ("PlatformDoors$Side", "warningBegan", "I", false, 0), ("PlatformDoors$Side", "openedAt", "I", false, 0), ("PlatformDoors$Side", "openings", "I", false, 0)]
def pm_mf (n : String) (d : String) (t : Nat) : pm_Fd := ("PlatformDoorsModel", n, d, Nat.beq t 2, t)
def pm_fd : List (String × List pm_Fd) := [
  ("PlatformDoors", [("PlatformDoors", "train", "LPlatformDoors$Train;", true, 2), ("PlatformDoors", "platform", "LPlatformDoors$Platform;", true, 2), ("PlatformDoors", "stoodAt", "I", false, 0), ("PlatformDoors", "breachCount", "I", false, 0)]),
  ("PlatformDoors$Frame", [("PlatformDoors$Frame", "number", "I", false, 0), ("PlatformDoors$Frame", "echo", "I", false, 0), ("PlatformDoors$Frame", "state", "I", false, 0), ("PlatformDoors$Frame", "isolatedBits", "I", false, 0), ("PlatformDoors$Frame", "assured", "Z", false, 1), ("PlatformDoors$Frame", "commandIsOpen", "Z", false, 1)]),
  ("PlatformDoors$Leaf", [("PlatformDoors$Leaf", "contacts", "[I", true, 2), ("PlatformDoors$Leaf", "position", "I", false, 0), ("PlatformDoors$Leaf", "retries", "I", false, 0), ("PlatformDoors$Leaf", "reopening", "I", false, 0), ("PlatformDoors$Leaf", "obstructed", "I", false, 0), ("PlatformDoors$Leaf", "wantedOpen", "Z", false, 1), ("PlatformDoors$Leaf", "isolated", "Z", false, 1), ("PlatformDoors$Leaf", "released", "Z", false, 1), ("PlatformDoors$Leaf", "callsStaff", "Z", false, 1)]),
  ("PlatformDoors$Line", [("PlatformDoors$Line", "frames", "[LPlatformDoors$Frame;", true, 2), ("PlatformDoors$Line", "count", "I", false, 0)]),
  ("PlatformDoors$Platform", pm_side),
  ("PlatformDoors$Train", pm_side ++ [("PlatformDoors$Train", "place", "I", false, 0), ("PlatformDoors$Train", "speed", "I", false, 0), ("PlatformDoors$Train", "measuringError", "I", false, 0), ("PlatformDoors$Train", "stepsAtRest", "I", false, 0), ("PlatformDoors$Train", "commandIsOpen", "Z", false, 1)]),
  ("PlatformDoorsModel", [pm_mf "steps" "[I" 2, pm_mf "state" "[I" 2, pm_mf "warned" "[I" 2, pm_mf "opened" "[I" 2, pm_mf "has" "[Z" 2, pm_mf "taken" "[I" 2, pm_mf "many" "[I" 2, pm_mf "frames" "[I" 2, pm_mf "position" "[I" 2, pm_mf "isolated" "[Z" 2, pm_mf "released" "[Z" 2, pm_mf "wanted" "[Z" 2, pm_mf "staff" "[Z" 2, pm_mf "obstructed" "[I" 2, pm_mf "retries" "[I" 2, pm_mf "reopening" "[I" 2, pm_mf "contacts" "[I" 2, pm_mf "place" "I" 0, pm_mf "speed" "I" 0, pm_mf "error" "I" 0, pm_mf "still" "I" 0, pm_mf "command" "Z" 1, pm_mf "there" "I" 0, pm_mf "breaches" "I" 0])]
def pm_T (fs : List pm_Fd) : u_T := fun k => ((fs.getD k ("", "", "", false, 0)).1, (fs.getD k ("", "", "", false, 0)).2.1, (fs.getD k ("", "", "", false, 0)).2.2.1, (fs.getD k ("", "", "", false, 0)).2.2.2.1)
def pm_tl (fs : List pm_Fd) : List Nat := fs.map (fun q => q.2.2.2.2)
def pm_cl : List vw_C := pm_fd.map (fun q => (q.1, pm_T q.2, q.2.length))
def pm_fs0 (ci : Nat) : List pm_Fd := (pm_fd.getD ci ("", [])).2
abbrev pm_G : Type := va_G × (Nat → ClassId) × Nat × Nat
def pm_rz (z : Nat) (q : Option Nat) : Option Nat := q.map (fun k => z + k)
def pm_vl (z b : Nat) : pm_V → Value
  | .inl x => .int x
  | .inr (.inl w) => .int (bif w then 1 else 0)
  | .inr (.inr (.inl q)) => va_rf (pm_rz z q)
  | .inr (.inr (.inr _)) => .ref b
theorem pm_cat (z b : Nat) (v : pm_V) : (pm_vl z b v).category = 1 := by
  rcases v with x | w | (_ | q) | _ <;> rfl
def pm_sv (ty z : Nat) (x : Int32) (w : Bool) (r : Option Nat) : Value := match ty with
  | 0 => .int x
  | 1 => .int (bif w then 1 else 0)
  | _ => va_rf (pm_rz z r)
theorem pm_vl_get (z b ty k j : Nat) (u : pm_S) : pm_vl z b (pm_get ty k j u) = pm_sv ty z (u.2.1 k j) (u.2.2.1 k j) (u.2.2.2 k j) := by
  rcases ty with _ | _ | ty <;> rfl
def pm_fs (tl : List Nat) (z : Nat) (x : Nat → Int32) (w : Nat → Bool) (r : Nat → Option Nat) : List Value := (List.range tl.length).map (fun j => pm_sv (tl.getD j 0) z (x j) (w j) (r j))
def pm_ac (t z : Nat) (x : Nat → Int32) (w : Nat → Bool) (r : Nat → Option Nat) : (Nat → Int32) ⊕ (Nat → Int64) ⊕ (Nat → UInt32) ⊕ (Nat → UInt64) ⊕ (Nat → Option Nat) := match t with
  | 0 => .inl x
  | 1 => .inl (fun j => bif w j then 1 else 0)
  | _ => .inr (.inr (.inr (.inr (fun j => pm_rz z (r j)))))
def pm_cell (G : pm_G) (d : pm_Kd) (x : Nat → Int32) (w : Nat → Bool) (r : Nat → Option Nat) : va_E := match d with
  | .inl ci => .inr (ci, pm_fs (pm_tl (pm_fs0 ci)) G.2.2.1 x w r)
  | .inr (t, len) => .inl (G.2.1 t, len, pm_ac t G.2.2.1 x w r)
def pm_kx (k : Nat) : pm_Kd := (pm_kd k).getD (.inl 0)
def pm_ws (G : pm_G) (u : pm_S) : va_W := (List.range u.1).map (fun k => (G.2.2.1 + k, pm_cell G (pm_kx k) (u.2.1 k) (u.2.2.1 k) (u.2.2.2 k)))
/-- the heap holds the memory, and ends behind its last place -/
def pm_H (G : pm_G) (u : pm_S) (H : Heap) : Prop := H.size = G.2.2.1 + u.1 ∧ va_P G.1 pm_cl (pm_ws G u) H
def pm_A (G : pm_G) : Nat → Prop := fun q => G.2.2.1 ≤ q
theorem pm_ws_get {G : pm_G} {u : pm_S} {k : Nat} (h : k < u.1) : (pm_ws G u)[k]? = some (G.2.2.1 + k, pm_cell G (pm_kx k) (u.2.1 k) (u.2.2.1 k) (u.2.2.2 k)) := by
  unfold pm_ws
  rw [List.getElem?_map, List.getElem?_range h]
  rfl
theorem pm_ws_D {G : pm_G} {u : pm_S} : va_D (pm_A G) (pm_ws G u) := by
  have key : ∀ (k : Nat) (q : Nat × va_E), (pm_ws G u)[k]? = some q → q.1 = G.2.2.1 + k := by
    intro k q hk
    have hl : k < u.1 := by
      have := (List.getElem?_eq_some_iff.mp hk).1
      simpa [pm_ws] using this
    rw [pm_ws_get hl] at hk
    cases hk
    rfl
  refine ⟨fun i j p q hi hj hpq => ?_, fun k q hk => ?_⟩
  · have h1 := key i p hi
    have h2 := key j q hj
    omega
  · show G.2.2.1 ≤ q.1
    rw [key k q hk]
    omega
/-- a cell is written: the memory differs at that place alone -/
theorem pm_ws_set {G : pm_G} {u u' : pm_S} {k : Nat} {e : va_E} (hn : u'.1 = u.1) (he : pm_cell G (pm_kx k) (u'.2.1 k) (u'.2.2.1 k) (u'.2.2.2 k) = e) (hx : ∀ a, a ≠ k → u'.2.1 a = u.2.1 a) (hw : ∀ a, a ≠ k → u'.2.2.1 a = u.2.2.1 a) (hr : ∀ a, a ≠ k → u'.2.2.2 a = u.2.2.2 a) : (pm_ws G u).set k (G.2.2.1 + k, e) = pm_ws G u' := by
  apply List.ext_getElem?
  intro i
  rw [List.getElem?_set]
  by_cases hi : i < u.1
  · rw [pm_ws_get (u := u') (by omega)]
    by_cases hk : k = i
    · subst hk
      have hl : k < (pm_ws G u).length := by simpa [pm_ws] using hi
      rw [if_pos rfl, if_pos hl, he]
    · rw [if_neg hk, pm_ws_get hi, hx i (Ne.symm hk), hw i (Ne.symm hk), hr i (Ne.symm hk)]
  · have h1 : (pm_ws G u).length ≤ i := by simpa [pm_ws] using Nat.not_lt.mp hi
    have h2 : (pm_ws G u').length ≤ i := by simp [pm_ws]; omega
    rw [List.getElem?_eq_none h2]
    by_cases hk : k = i
    · subst hk
      rw [if_pos rfl, if_neg (by omega)]
    · rw [if_neg hk, List.getElem?_eq_none h1]
/-- a new place -/
theorem pm_ws_push {G : pm_G} {u u' : pm_S} {e : va_E} (hn : u'.1 = u.1 + 1) (he : pm_cell G (pm_kx u.1) (u'.2.1 u.1) (u'.2.2.1 u.1) (u'.2.2.2 u.1) = e) (hx : ∀ a, a ≠ u.1 → u'.2.1 a = u.2.1 a) (hw : ∀ a, a ≠ u.1 → u'.2.2.1 a = u.2.2.1 a) (hr : ∀ a, a ≠ u.1 → u'.2.2.2 a = u.2.2.2 a) : pm_ws G u ++ [(G.2.2.1 + u.1, e)] = pm_ws G u' := by
  apply List.ext_getElem?
  intro i
  have hlen : (pm_ws G u).length = u.1 := by simp [pm_ws]
  by_cases hi : i < u.1
  · rw [List.getElem?_append_left (by omega), pm_ws_get hi, pm_ws_get (u := u') (by omega), hx i (by omega), hw i (by omega), hr i (by omega)]
  · by_cases hk : i = u.1
    · subst hk
      rw [List.getElem?_append_right (by omega), hlen, Nat.sub_self, pm_ws_get (u := u') (by omega), he]
      rfl
    · have h2 : (pm_ws G u').length ≤ i := by simp [pm_ws]; omega
      rw [List.getElem?_eq_none h2, List.getElem?_eq_none (by simp [hlen]; omega)]
theorem pm_up_ne {α : Type} {x : Nat → Nat → α} {k j a : Nat} {v : α} (h : a ≠ k) : pm_up x k j v a = x a := by
  funext b
  have : Nat.beq a k = false := by
    cases hb : Nat.beq a k
    · rfl
    · exact absurd (Nat.eq_of_beq_eq_true hb) h
  simp [pm_up, this]
theorem pm_up_at {α : Type} {x : Nat → Nat → α} {k j b : Nat} {v : α} : pm_up x k j v k b = if b = j then v else x k b := by
  have h1 : Nat.beq k k = true := Nat.beq_refl k
  by_cases h : b = j
  · subst h
    simp [pm_up, h1, Nat.beq_refl]
  · have : Nat.beq b j = false := by
      cases hb : Nat.beq b j
      · rfl
      · exact absurd (Nat.eq_of_beq_eq_true hb) h
    simp [pm_up, h1, this, h]
theorem pm_up_eq {α : Type} {x : Nat → Nat → α} {k j a b : Nat} {v : α} : pm_up x k j v a b = if a = k ∧ b = j then v else x a b := by
  by_cases h : a = k
  · subst h
    rw [pm_up_at]
    by_cases hb : b = j
    · rw [if_pos hb, if_pos ⟨rfl, hb⟩]
    · rw [if_neg hb, if_neg (fun z => hb z.2)]
  · rw [pm_up_ne h, if_neg (fun z => h z.1)]
theorem pm_fz_ne {α : Type} {x : Nat → Nat → α} {k a : Nat} {v : α} (h : a ≠ k) : pm_fz x k v a = x a := by
  funext b
  have : Nat.beq a k = false := by
    cases hb : Nat.beq a k
    · rfl
    · exact absurd (Nat.eq_of_beq_eq_true hb) h
  simp [pm_fz, this]
theorem pm_fz_at {α : Type} {x : Nat → Nat → α} {k : Nat} {v : α} : pm_fz x k v k = fun _ => v := by
  funext b
  simp [pm_fz, Nat.beq_refl]
theorem pm_fs_get {tl : List Nat} {z : Nat} {x : Nat → Int32} {w : Nat → Bool} {r : Nat → Option Nat} {j : Nat} (h : j < tl.length) : (pm_fs tl z x w r)[j]? = some (pm_sv (tl.getD j 0) z (x j) (w j) (r j)) := by
  unfold pm_fs
  rw [List.getElem?_map, List.getElem?_range h]
  rfl
theorem pm_fs_len {tl : List Nat} {z : Nat} {x : Nat → Int32} {w : Nat → Bool} {r : Nat → Option Nat} : (pm_fs tl z x w r).length = tl.length := by simp [pm_fs]
theorem pm_fs_set {tl : List Nat} {z : Nat} {x x' : Nat → Int32} {w w' : Nat → Bool} {r r' : Nat → Option Nat} {j : Nat} {v : Value} (hj : j < tl.length) (hs : pm_sv (tl.getD j 0) z (x' j) (w' j) (r' j) = v) (hx : ∀ b, b ≠ j → x' b = x b) (hw : ∀ b, b ≠ j → w' b = w b) (hr : ∀ b, b ≠ j → r' b = r b) : (pm_fs tl z x w r).set j v = pm_fs tl z x' w' r' := by
  apply List.ext_getElem?
  intro i
  rw [List.getElem?_set]
  by_cases hi : i < tl.length
  · rw [pm_fs_get (x := x') hi]
    by_cases hk : j = i
    · subst hk
      rw [if_pos rfl, if_pos (by rw [pm_fs_len]; exact hi), hs]
    · rw [if_neg hk, pm_fs_get hi, hx i (Ne.symm hk), hw i (Ne.symm hk), hr i (Ne.symm hk)]
  · have h1 : (pm_fs tl z x w r).length ≤ i := by rw [pm_fs_len]; omega
    have h2 : (pm_fs tl z x' w' r').length ≤ i := by rw [pm_fs_len]; omega
    rw [List.getElem?_eq_none h2]
    by_cases hk : j = i
    · subst hk
      rw [if_pos rfl, if_neg (by omega)]
    · rw [if_neg hk, List.getElem?_eq_none h1]
/-! places by their kind -/
theorem pm_blt {a b : Nat} (h : Nat.blt a b = true) : a < b := Nat.le_of_ble_eq_true h
theorem pm_beq {a b : Nat} (h : Nat.beq a b = true) : a = b := Nat.eq_of_beq_eq_true h
theorem pm_cls_spec {n k ci : Nat} (h : pm_cls n k = some ci) : k < n ∧ pm_kd k = some (.inl ci) := by
  unfold pm_cls at h
  cases hb : Nat.blt k n with
  | false => rw [hb] at h; cases h
  | true =>
    rw [hb] at h
    refine ⟨pm_blt hb, ?_⟩
    revert h
    cases hk : pm_kd k with
    | none => intro h; cases h
    | some d =>
      rcases d with a | a
      · intro h
        simp at h
        rw [h]
      · intro h; cases h
theorem pm_arr_spec {n k : Nat} {a : Nat × Nat} (h : pm_arr n k = some a) : k < n ∧ pm_kd k = some (.inr a) := by
  unfold pm_arr at h
  cases hb : Nat.blt k n with
  | false => rw [hb] at h; cases h
  | true =>
    rw [hb] at h
    refine ⟨pm_blt hb, ?_⟩
    revert h
    cases hk : pm_kd k with
    | none => intro h; cases h
    | some d =>
      rcases d with a | a
      · intro h; cases h
      · intro h
        simp at h
        rw [h]
theorem pm_kx_of {k : Nat} {d : pm_Kd} (h : pm_kd k = some d) : pm_kx k = d := by
  unfold pm_kx
  rw [h]
  rfl
theorem pm_ib_in {i : Int32} {len : Nat} (h : pm_ib i len = true) : vp_in i len := by
  unfold pm_ib at h
  simp only [Bool.and_eq_true, Bool.not_eq_true', decide_eq_false_iff_not] at h
  intro q
  rcases q with q | q
  · exact h.1 q
  · have := pm_blt h.2
    omega
end
section
/-! The words, the contract, and what a row of code must keep to. -/
def pm_ga : List Cond := pm_tb.filter goodWord
def pm_has (w : Cond) : Bool := decide (w ∈ pm_tb) && goodWord w
theorem pm_in {w : Cond} (h : pm_has w = true) : w ∈ pm_ga := by
  simp only [pm_has, Bool.and_eq_true, decide_eq_true_eq] at h
  exact List.mem_filter.mpr h
theorem pm_goodIn {ws : List Cond} (h : ∀ w ∈ ws, w ∈ pm_ga) : GoodIn pm_ga ws := fun w hw => ⟨h w hw, good_of_word (List.mem_filter.mp (h w hw)).2⟩
def pm_isN : Cond → Bool
  | .methodLinkNest _ _ _ _ => true
  | .declares _ => true
  | _ => false
def pm_hasN (w : Cond) : Bool := decide (w ∈ pm_tb) && pm_isN w
def pm_tys (c : Nat → ClassId) : List (ClassId × FieldType) := [(c 0, .int), (c 1, .boolean), (c 2, .object "PlatformDoors$Frame"), (c 3, .object "PlatformDoors$Leaf")]
def pm_K (G : pm_G) (U : State) : Prop := va_K G.1 pm_cl (pm_tys G.2.1) U ∧ (∀ w, pm_hasN w = true → va_Nw w U) ∧ va_AO "PlatformDoors$Frame" U ∧ va_AO "PlatformDoors$Leaf" U
theorem pm_isN_cases {w : Cond} (h : pm_isN w = true) : (∃ a i x b, w = .methodLinkNest a i x b) ∨ ∃ x, w = .declares x := by
  cases w <;> first | (exact Or.inl ⟨_, _, _, _, rfl⟩) | (exact Or.inr ⟨_, rfl⟩) | (exact absurd h (by decide)) | (simp [pm_isN] at h)
theorem pm_K.moved {G : pm_G} {s U : State} (hW : s.WarmedH U.vm) (h : pm_K G s) : pm_K G U := by
  refine ⟨va_K.moved hW.alike h.1, fun w hw => ?_, va_AO.moved hW.alike h.2.2.1, va_AO.moved hW.alike h.2.2.2⟩
  have h1 := h.2.1 w hw
  simp only [pm_hasN, Bool.and_eq_true] at hw
  rcases pm_isN_cases hw.2 with ⟨a, i, x, b, rfl⟩ | ⟨x, rfl⟩
  · exact va_Nw.warmM hW h1
  · exact va_Nw.warmD hW h1
theorem pm_K.same {G : pm_G} {u U : State} (hv : u.vm = U.vm) (h : pm_K G u) : pm_K G U := by
  have ha : u.vm.Alike U.vm := by rw [hv]; exact Vm.Alike.refl _
  refine ⟨va_K.moved ha h.1, fun w hw => ?_, va_AO.moved ha h.2.2.1, va_AO.moved ha h.2.2.2⟩
  have h1 := h.2.1 w hw
  simp only [pm_hasN, Bool.and_eq_true] at hw
  rcases pm_isN_cases hw.2 with ⟨a, i, x, b, rfl⟩ | ⟨x, rfl⟩
  · exact va_Nw.same rfl hv h1
  · exact va_Nw.same rfl hv h1
/-- the script lies below all places -/
def pm_X (G : pm_G) (sc : pm_Sc) (U : State) (H : Heap) : Prop := va_X G.2.2.2 sc.1 sc.2 U H ∧ G.2.2.2 < G.2.2.1
def pm_rm (d mc ms : Nat) : Room := { frames := d + 1, cells := mc, slots := ms, locals := 30 * (d + 1) }
def pm_sz (k : Nat) : Nat := match pm_kx k with
  | .inl ci => (pm_fs0 ci).length
  | .inr a => a.2
def pm_sl : Nat → Nat
  | 0 => 0
  | n + 1 => pm_sl n + pm_sz n
theorem pm_sl_le {a b : Nat} (h : a ≤ b) : pm_sl a ≤ pm_sl b := by
  induction h with
  | refl => exact Nat.le_refl _
  | step _ ih => exact Nat.le_trans ih (Nat.le_add_right _ _)
abbrev pm_Mt : Type := MethodName × ByteArray × Nat × Option FieldType × pm_Cd × Nat
def pm_Q (G : pm_G) (v : Option Value) (u : pm_S) : Array Value → State → Outcome → State → Prop := fun _ st oc t => oc = .returned v ∧ pm_H G u t.heap ∧ va_F (pm_A G) st t
def pm_Pc (G : pm_G) (sc : pm_Sc) (av : List pm_V) (u : pm_S) : Array Value → State → Prop := va_Pc (av.map (pm_vl G.2.2.1 G.2.2.2)) (fun U => pm_H G u U.heap ∧ pm_K G U ∧ pm_X G sc U U.heap)
/-- the contract: from memory u, with the arguments av, the method M answers v and leaves memory u' -/
def pm_M (l : Launch) (G : pm_G) (sc : pm_Sc) (d : Nat) (M : pm_Mt) (av : List pm_V) (u : pm_S) (v : Option pm_V) (u' : pm_S) : Prop :=
  Met l M.1 (.code M.1 M.2.1 M.2.2.1 M.2.2.2.1 :: pm_ga) (pm_rm d (u'.1 - u.1) (pm_sl u'.1 - pm_sl u.1)) (pm_Pc G sc av u) (pm_Q G (v.map (pm_vl G.2.2.1 G.2.2.2)) u') (u'.1 - u.1) (pm_sl u'.1 - pm_sl u.1) (pm_A G)
theorem pm_blind (G : pm_G) (sc : pm_Sc) (av : List pm_V) (u : pm_S) : FrameBlind (pm_Pc G sc av u) := fun a U g mk h => ⟨h.1, h.2.1, pm_K.same (u := U) (U := U.calling g mk a) rfl h.2.2.1, va_X.moved (u := U) (U := U.calling g mk a) (Vm.Alike.refl U.vm) h.2.2.2.1, h.2.2.2.2⟩
/-! rows of code: what is checked of each, by computation -/
def pm_len (ins : Jvm.ClassFile.Instr) (d : Nat) : Nat := match ins with
  | .bipush _ => 2
  | .iload _ => 2
  | .aload _ => 2
  | .istore _ => 2
  | .astore _ => 2
  | .ldc _ => 2
  | .newarray _ => 2
  | .sipush _ => 3
  | .iinc _ _ => 3
  | .ifCond _ _ => 3
  | .if_icmp _ _ => 3
  | .goto _ => 3
  | .getfield _ => 3
  | .putfield _ => 3
  | .new _ => 3
  | .anewarray _ => 3
  | .invokevirtual _ => 3
  | .invokespecial _ => 3
  | .invokestatic _ => 3
  | .tableswitch _ _ _ _ => d
  | _ => 1
def pm_refs : List String := ["PlatformDoors$Train", "PlatformDoors$Platform"]
def pm_fok (own : String) (i ci j ty : Nat) : Bool := match pm_fd[ci]? with
  | some (_, fs) => (match fs[j]? with
    | some (D, nm, ds, _, t) => Nat.beq t ty && (pm_has (.fieldLink own i D nm ds) || pm_refs.any (fun ref => pm_has (.sameField ref D nm ds) && pm_has (.fieldLink own i ref nm ds)))
    | none => false)
  | none => false
def pm_fin (own : String) (ini : Bool) (ci j : Nat) : Bool := match (pm_fs0 ci)[j]? with
  | some (D, _, _, fin, _) => !fin || (ini && decide (D = own))
  | none => false
def pm_desc (y : MethodName) (na : Nat) : Bool := decide (y.cls ≠ "java/lang/invoke/MethodHandle") && decide (y.cls ≠ "java/lang/invoke/VarHandle") && decide ((parseMethodDescriptor y.desc).map (fun d => d.parameters.length) = some na)
def pm_host : String := "PlatformDoors"
/-- the callee: its code's word is there, its arguments fit -/
def pm_okc (MT : List pm_Mt) (mi na : Nat) (k : pm_Mt → Bool) : Bool := match MT[mi]? with
  | some M => pm_has (.code M.1 M.2.1 M.2.2.1 M.2.2.2.1) && pm_has (.initialized M.1.cls) && Nat.ble na M.2.2.1 && Nat.ble M.2.2.1 11 && k M
  | none => false
def pm_okv (own : String) (i na : Nat) (xc C : String) (y : MethodName) : Bool :=
  pm_desc y na && pm_has (.instanceMethod y) && (
    (decide (xc = y.cls) && decide (y.cls = C) && pm_has (.selects C y y) && (pm_has (.methodLink own i y) || pm_hasN (.methodLinkNest own i y pm_host))) ||
    (pm_has (.methodLink own i ⟨xc, y.name, y.desc⟩) && pm_has (.selects C ⟨xc, y.name, y.desc⟩ y) && (pm_has (.sameMethod xc y.cls y.name y.desc) ||
      (pm_has (.sameMethod xc xc y.name y.desc) && pm_hasN (.declares ⟨xc, y.name, y.desc⟩) && pm_desc ⟨xc, y.name, y.desc⟩ na))))
def pm_okp (MT : List pm_Mt) (own : String) (i na xn : Nat) : List Nat → Bool
  | ci :: mi :: t => Nat.blt ci 7 && pm_okc MT mi (na + 1) (fun M => pm_okv own i na (pm_cn xn) (pm_cn ci) M.1) && pm_okp MT own i na xn t
  | _ => true
def pm_oki (MT : List pm_Mt) (M : pm_Mt) (pc : Nat) (ins : Jvm.ClassFile.Instr) (ax : List Nat) : Bool := match ins with
  | .bipush n => decide ((Int8.ofInt n).toInt32 = Int32.ofInt n)
  | .sipush n => decide ((Int16.ofInt n).toInt32 = Int32.ofInt n)
  | .ldc i => pm_has (.constant M.1.cls i (pm_con ax))
  | .istore_n k => Nat.blt k.val M.2.2.1
  | .istore k => Nat.blt k M.2.2.1
  | .astore_n k => Nat.blt k.val M.2.2.1
  | .astore k => Nat.blt k M.2.2.1
  | .iinc k _ => Nat.blt k M.2.2.1
  | .ifCond _ off => decide ((pc : Int) + off = ((ax.headD 0 : Nat) : Int))
  | .if_icmp _ off => decide ((pc : Int) + off = ((ax.headD 0 : Nat) : Int))
  | .goto off => decide ((pc : Int) + off = ((ax.headD 0 : Nat) : Int))
  | .getfield i => (match ax with | j :: ty :: cis => cis.all (fun ci => pm_fok M.1.cls i ci j ty) | _ => true)
  | .putfield i => (match ax with | j :: ty :: _ :: cis => cis.all (fun ci => pm_fok M.1.cls i ci j ty && pm_fin M.1.cls (decide (M.1.name = "<init>")) ci j) | _ => true)
  | .new i => (match ax with | ci :: _ => Nat.blt ci 7 && pm_has (.classLink M.1.cls i (pm_cn ci)) && pm_has (.instantiable (pm_cn ci) (pm_fs0 ci).length) && pm_has (.initialized (pm_cn ci)) | _ => true)
  | .newarray a => (match ax with | [t] => (decide (a = .int) && Nat.beq t 0 && pm_has (.arrayClass .int)) || (decide (a = .boolean) && Nat.beq t 1 && pm_has (.arrayClass .boolean)) | _ => true)
  | .anewarray i => (match ax with | [t] => (Nat.beq t 2 && pm_has (.classLink M.1.cls i "PlatformDoors$Frame")) || (Nat.beq t 3 && pm_has (.classLink M.1.cls i "PlatformDoors$Leaf")) | _ => true)
  | .invokevirtual i => (match ax with | na :: xn :: ps => pm_okp MT M.1.cls i na xn ps | _ => true)
  | .invokespecial i => (match ax with
    | [] => pm_has (.methodLink M.1.cls i Lib.objectInit) && pm_has (.instanceMethod Lib.objectInit) && pm_has (.code Lib.objectInit ⟨#[0xb1]⟩ 1 none)
    | na :: mi :: _ => pm_okc MT mi (na + 1) (fun N => pm_desc N.1 na && decide (N.1.name = "<init>") && decide (N.2.2.2.1 = none) && pm_has (.instanceMethod N.1) && (pm_has (.methodLink M.1.cls i N.1) || pm_hasN (.methodLinkNest M.1.cls i N.1 pm_host)))
    | _ => true)
  | .invokestatic i => (match ax with
    | [0] => pm_has (.methodLink M.1.cls i Lib.Math.max.name) && pm_has (.static Lib.Math.max.name) && pm_has (.initialized "java/lang/Math") && pm_has (.code Lib.Math.max.name Lib.Math.max.code 2 (some .int))
    | [1] => pm_has (.methodLink M.1.cls i Lib.Math.min.name) && pm_has (.static Lib.Math.min.name) && pm_has (.initialized "java/lang/Math") && pm_has (.code Lib.Math.min.name Lib.Math.min.code 2 (some .int))
    | na :: mi :: _ => pm_okc MT mi na (fun N => pm_desc N.1 na && pm_has (.static N.1) && ((decide (N.1.cls = M.1.cls) && pm_has (.methodLink M.1.cls i N.1)) || pm_hasN (.methodLinkNest M.1.cls i N.1 pm_host)))
    | _ => true)
  | .tableswitch d lo hi offs => (match ax with
    | t0 :: ts => decide (lo = 0) && decide (hi + 1 = (ts.length : Int)) && decide ((pc : Int) + d = ((t0 : Nat) : Int)) && decide (offs.toList.map (fun o => (pc : Int) + o) = ts.map (fun (t : Nat) => (t : Int))) && Nat.blt ts.length 1000
    | _ => true)
  | _ => true
def pm_okb (MT : List pm_Mt) (M : pm_Mt) (row : pm_Row) : Bool := decide (decode M.2.1 row.1 = .ok (row.2.1, pm_len row.2.1 (row.2.2.1 - row.1))) && Nat.beq row.2.2.1 (row.1 + pm_len row.2.1 (row.2.2.1 - row.1)) && pm_oki MT M row.1 row.2.1 row.2.2.2
def pm_rko (ret : Option FieldType) (rk : Nat) : Bool := match ret, rk with
  | none, 0 => true
  | some .int, 1 => true
  | some .boolean, 2 => true
  | some (.object _), 3 => true
  | _, _ => false
def pm_okm (MT : List pm_Mt) (M : pm_Mt) : Bool := plainName M.1.cls && pm_rko M.2.2.2.1 M.2.2.2.2.2 && M.2.2.2.2.1.all (fun ch => ch.all (pm_okb MT M))
theorem pm_look_mem : ∀ (rows : List pm_Row) (pc : Nat) (a : Jvm.ClassFile.Instr × Nat × List Nat), pm_look rows pc = some a → (pc, a) ∈ rows
  | [], _, _, h => by cases h
  | (k, b) :: t, pc, a, h => by
    unfold pm_look at h
    cases hk : Nat.beq k pc with
    | true =>
      rw [hk] at h
      have e1 := pm_beq hk
      have e2 : b = a := Option.some.inj h
      subst e1; subst e2
      exact List.mem_cons_self
    | false =>
      rw [hk] at h
      exact List.mem_cons_of_mem _ (pm_look_mem t pc a h)
theorem pm_find_ok {MT : List pm_Mt} {M : pm_Mt} (h : pm_okm MT M = true) {pc nx : Nat} {ins : Jvm.ClassFile.Instr} {ax : List Nat} (hf : pm_find M.2.2.2.2.1 pc = some (ins, nx, ax)) : decode M.2.1 pc = .ok (ins, pm_len ins (nx - pc)) ∧ nx = pc + pm_len ins (nx - pc) ∧ pm_oki MT M pc ins ax = true := by
  simp only [pm_okm, Bool.and_eq_true] at h
  have hm := pm_look_mem _ _ _ hf
  have hch : (M.2.2.2.2.1.getD (pc / 16) []).all (pm_okb MT M) = true := by
    by_cases hl : pc / 16 < M.2.2.2.2.1.length
    · have h2 := List.all_eq_true.mp h.2 (M.2.2.2.2.1[pc / 16]) (List.getElem_mem hl)
      rw [List.getD_eq_getElem?_getD, List.getElem?_eq_getElem hl]
      exact h2
    · rw [List.getD_eq_getElem?_getD, List.getElem?_eq_none (Nat.not_lt.mp hl)]
      rfl
  have h3 := List.all_eq_true.mp hch _ hm
  simp only [pm_okb, Bool.and_eq_true, decide_eq_true_eq] at h3
  exact ⟨h3.1.1, pm_beq h3.1.2, h3.2⟩
end
section
/-! What my small machine does in one step, the model does: instructions that don't touch the memory. -/
abbrev pm_lvv (z b : Nat) (lv : pm_Lv) : List (Nat × Value) := lv.map (fun q => (q.1, pm_vl z b q.2))
theorem pm_lget_mem : ∀ (lv : pm_Lv) (i : Nat) (v : pm_V), pm_lget lv i = some v → (i, v) ∈ lv
  | [], _, _, h => by cases h
  | (k, w) :: t, i, v, h => by
    unfold pm_lget at h
    cases hk : Nat.beq k i with
    | true =>
      rw [hk] at h
      have e1 := pm_beq hk
      have e2 : w = v := Option.some.inj h
      subst e1; subst e2
      exact List.mem_cons_self
    | false =>
      rw [hk] at h
      exact List.mem_cons_of_mem _ (pm_lget_mem t i v h)
theorem pm_at {ls : Array Slot} {nL z b i : Nat} {lv : pm_Lv} {v : pm_V} (hl : lv_has ls nL (pm_lvv z b lv)) (h : pm_lget lv i = some v) : ls[i]? = some (.val (pm_vl z b v)) := hl.2.2 (i, pm_vl z b v) (List.mem_map.mpr ⟨(i, v), pm_lget_mem lv i v h, rfl⟩)
theorem pm_ldel_eq (z b i : Nat) : ∀ lv : pm_Lv, (pm_lvv z b lv).filter (fun q => !(q.1 == i) && !(q.1 + 1 == i && q.2.category == 2)) = pm_lvv z b (pm_ldel lv i)
  | [] => rfl
  | (k, w) :: t => by
    have ih := pm_ldel_eq z b i t
    have hc : ((pm_vl z b w).category == 2) = false := by rw [pm_cat]; rfl
    show List.filter _ ((k, pm_vl z b w) :: pm_lvv z b t) = pm_lvv z b (bif Nat.beq k i then pm_ldel t i else (k, w) :: pm_ldel t i)
    rw [List.filter_cons]
    cases hk : Nat.beq k i with
    | true =>
      have e1 := pm_beq hk
      subst e1
      simp only [beq_self_eq_true, Bool.not_true, Bool.false_and, cond_true]
      rw [if_neg (by decide)]
      exact ih
    | false =>
      have e1 : (k == i) = false := by
        cases hb : (k == i) with
        | false => rfl
        | true =>
          have := eq_of_beq hb
          subst this
          rw [Nat.beq_refl] at hk
          cases hk
      simp only [e1, hc, Bool.and_false, Bool.not_false, Bool.and_self, cond_false]
      rw [if_pos trivial, ih]
      rfl
theorem pm_lset_eq (z b i : Nat) (v : pm_V) (lv : pm_Lv) : (i, pm_vl z b v) :: (pm_lvv z b lv).filter (fun q => !(q.1 == i) && !(q.1 + 1 == i && q.2.category == 2)) = pm_lvv z b (pm_lset lv i v) := by
  rw [pm_ldel_eq]
  rfl
theorem pm_ld_spec {v : Option pm_V} {kg : pm_V → Prop} (h : pm_ld v kg False) : ∃ w, v = some w ∧ kg w ∧ ∀ z b, ∃ y, pm_vl z b w = .int y := by
  rcases v with _ | x | w | q
  · exact h.elim
  · exact ⟨_, rfl, h, fun _ _ => ⟨x, rfl⟩⟩
  · exact ⟨_, rfl, h, fun _ _ => ⟨_, rfl⟩⟩
  · exact h.elim
theorem pm_la_spec {v : Option pm_V} {kg : pm_V → Prop} (h : pm_la v kg False) : ∃ w, v = some w ∧ kg w ∧ ∀ z b, pm_vl z b w = .null ∨ ∃ y, pm_vl z b w = .ref y := by
  rcases v with _ | x | w | (_ | q) | q
  · exact h.elim
  · exact h.elim
  · exact h.elim
  · exact ⟨_, rfl, h, fun _ _ => Or.inl rfl⟩
  · exact ⟨_, rfl, h, fun _ _ => Or.inr ⟨_, rfl⟩⟩
  · exact ⟨_, rfl, h, fun _ _ => Or.inr ⟨_, rfl⟩⟩
theorem pm_si_spec {st : List pm_V} {kg : pm_V → List pm_V → Prop} (h : pm_si st kg False) : ∃ w st', st = w :: st' ∧ kg w st' ∧ ∀ z b, ∃ y, pm_vl z b w = .int y := by
  rcases st with _ | ⟨x | w | q, st⟩
  · exact h.elim
  · exact ⟨_, _, rfl, h, fun _ _ => ⟨x, rfl⟩⟩
  · exact ⟨_, _, rfl, h, fun _ _ => ⟨_, rfl⟩⟩
  · exact h.elim
theorem pm_sa_spec {st : List pm_V} {kg : pm_V → List pm_V → Prop} (h : pm_sa st kg False) : ∃ w st', st = w :: st' ∧ kg w st' ∧ ∀ z b, pm_vl z b w = .null ∨ ∃ y, pm_vl z b w = .ref y := by
  rcases st with _ | ⟨x | w | (_ | q) | q, st⟩
  · exact h.elim
  · exact h.elim
  · exact h.elim
  · exact ⟨_, _, rfl, h, fun _ _ => Or.inl rfl⟩
  · exact ⟨_, _, rfl, h, fun _ _ => Or.inr ⟨_, rfl⟩⟩
  · exact ⟨_, _, rfl, h, fun _ _ => Or.inr ⟨_, rfl⟩⟩
theorem pm_op2_spec {st : List pm_V} {kg : Int32 → Int32 → List pm_V → Prop} (h : pm_op2 st kg False) : ∃ x y st', st = .inl y :: .inl x :: st' ∧ kg x y st' := by
  rcases st with _ | ⟨y | q, _ | ⟨x | q2, st⟩⟩
  · exact h.elim
  · exact h.elim
  · exact ⟨_, _, _, rfl, h⟩
  · exact h.elim
  · exact h.elim
  · exact h.elim
  · exact h.elim
theorem pm_obj_spec {n : Nat} {st : List pm_V} {kg : Nat → Nat → List pm_V → Prop} (h : pm_obj n st kg False) : ∃ k ci st', st = .inr (.inr (.inl (some k))) :: st' ∧ pm_cls n k = some ci ∧ kg k ci st' := by
  rcases st with _ | ⟨x | w | (_ | k) | q, st⟩
  · exact h.elim
  · exact h.elim
  · exact h.elim
  · exact h.elim
  · change (match pm_cls n k with | some ci => kg k ci st | none => False) at h
    cases hc : pm_cls n k with
    | none => rw [hc] at h; exact h.elim
    | some ci => rw [hc] at h; exact ⟨k, ci, st, rfl, hc, h⟩
  · exact h.elim
def pm_E (G : pm_G) (sc : pm_Sc) (M : pm_Mt) (d : Nat) (p : Program) (R : Room) (s : State) (m : MethodId) (args : Array Value) (meth : Method) (c : Code) : Prop :=
  p.tables.exec = Jvm.exec ∧ c.code = M.2.1 ∧ c.maxLocals = M.2.2.1 ∧ s.vm.findClass M.1.cls = some m.cls ∧ (∀ w ∈ pm_ga, w.before args s = true) ∧ pm_K G s ∧ pm_X G sc s s.heap ∧ (M.1.name = "<init>" → meth.name = "<init>") ∧ d + 1 ≤ R.frames ∧ 30 * (d + 1) ≤ R.locals
def pm_PW (p : Program) (l : Launch) (e : Env) (R : Room) (s : State) (m : MethodId) (args : Array Value) (below : List Frame) (meth : Method) (c : Code) (Q : State → Prop) (G : pm_G) (nL n0 : Nat) (pc : Nat) (lv : pm_Lv) (st : List pm_V) (u : pm_S) : Prop :=
  ∀ (H : Heap) (locs : List Loc) (ls : Array Slot), lv_has ls nL (pm_lvv G.2.2.1 G.2.2.2 lv) → pm_H G u H → va_S (pm_A G) s.heap H locs → n0 ≤ u.1 → W p l e R s m args below meth c H locs (u.1 - n0) (pm_sl u.1 - pm_sl n0) Q (F0 m pc ls (st.map (pm_vl G.2.2.1 G.2.2.2)))
def pm_ri (rk : Nat) : Jvm.ClassFile.Instr := match rk with
  | 0 => .return_
  | 1 => .ireturn
  | 2 => .ireturn
  | _ => .areturn
def pm_shp (rk : Nat) (v : Option pm_V) : Prop := match rk, v with
  | 0, none => True
  | 1, some (.inl _) => True
  | 2, some (.inr (.inl _)) => True
  | 3, some (.inr (.inr (.inl _))) => True
  | _, _ => False
def pm_PE (p : Program) (l : Launch) (e : Env) (R : Room) (s : State) (m : MethodId) (args : Array Value) (below : List Frame) (meth : Method) (c : Code) (Q : State → Prop) (G : pm_G) (cc : ByteArray) (rk n0 : Nat) (r : pm_Rs) : Prop :=
  ∀ (H : Heap) (locs : List Loc) (ls : Array Slot) (pc : Nat), pm_H G r.2 H → va_S (pm_A G) s.heap H locs → n0 ≤ r.2.1 → pm_shp rk r.1 → decode cc pc = .ok (pm_ri rk, 1) → W p l e R s m args below meth c H locs (r.2.1 - n0) (pm_sl r.2.1 - pm_sl n0) Q (F0 m pc ls (r.1.map (pm_vl G.2.2.1 G.2.2.2)).toList)
section PMW
variable {p : Program} {l : Launch} {e : Env} {R : Room} {s : State} {m : MethodId} {args : Array Value} {below : List Frame} {meth : Method} {c : Code} {Q : State → Prop}
variable {G : pm_G} {sc : pm_Sc} {M : pm_Mt} {d n0 nf : Nat} {MT : List pm_Mt} {cal : Nat → List pm_V → pm_S → Option pm_Rs} {pc nx : Nat} {ax : List Nat} {lv : pm_Lv} {st : List pm_V} {u : pm_S}
/-- what goes on behind a step -/
abbrev pm_kk (p : Program) (l : Launch) (e : Env) (R : Room) (s : State) (m : MethodId) (args : Array Value) (below : List Frame) (meth : Method) (c : Code) (Q : State → Prop) (G : pm_G) (nL n0 nf : Nat) : Nat → pm_Lv → List pm_V → pm_S → Prop := fun pc lv st u => u.1 ≤ nf ∧ pm_PW p l e R s m args below meth c Q G nL n0 pc lv st u
theorem pm_s_push {len : Nat} {v : Int32} (row : ∀ {H : Heap} {locs : List Loc} {cells slots : Nat} {ls : Array Slot} {rest : List Value}, W p l e R s m args below meth c H locs cells slots Q (F0 m (pc + len) ls (.int v :: rest)) → W p l e R s m args below meth c H locs cells slots Q (F0 m pc ls rest))
    (h : pm_kk p l e R s m args below meth c Q G M.2.2.1 n0 nf (pc + len) lv (.inl v :: st) u) : pm_PW p l e R s m args below meth c Q G M.2.2.1 n0 pc lv st u := fun H locs ls hl hH hS hn => row (h.2 H locs ls hl hH hS hn)
theorem pm_s_br {cd : Jvm.ClassFile.Cond} {off : Int} {tgt : Nat} {x : Int32} (E : pm_E G sc M d p R s m args meth c) (hd : decode M.2.1 pc = .ok (.ifCond cd off, 3)) (ht : (pc : Int) + off = (tgt : Int))
    (h : pm_br cd x (pm_kk p l e R s m args below meth c Q G M.2.2.1 n0 nf tgt lv st u) (pm_kk p l e R s m args below meth c Q G M.2.2.1 n0 nf (pc + 3) lv st u)) {v : pm_V} (hv : pm_vl G.2.2.1 G.2.2.2 v = .int x) : pm_PW p l e R s m args below meth c Q G M.2.2.1 n0 pc lv (v :: st) u := by
  obtain ⟨hx, hb, -⟩ := E
  intro H locs ls hl hH hS hn
  rw [List.map_cons, hv]
  cases cd
  · refine lv_if_eq hx hb hd ht (fun q => ?_) (fun q => ?_)
    · exact (by rw [show pm_br .eq x _ _ = _ from if_pos q] at h; exact h.2 H locs ls hl hH hS hn)
    · exact (by rw [show pm_br .eq x _ _ = _ from if_neg q] at h; exact h.2 H locs ls hl hH hS hn)
  · refine lv_if_ne hx hb hd ht (fun q => ?_) (fun q => ?_)
    · exact (by rw [show pm_br .ne x _ _ = _ from if_neg q] at h; exact h.2 H locs ls hl hH hS hn)
    · exact (by rw [show pm_br .ne x _ _ = _ from if_pos q] at h; exact h.2 H locs ls hl hH hS hn)
  · refine lv_if_lt hx hb hd ht (fun q => ?_) (fun q => ?_)
    · exact (by rw [show pm_br .lt x _ _ = _ from if_pos q] at h; exact h.2 H locs ls hl hH hS hn)
    · exact (by rw [show pm_br .lt x _ _ = _ from if_neg q] at h; exact h.2 H locs ls hl hH hS hn)
  · refine lv_if_ge hx hb hd ht (fun q => ?_) (fun q => ?_)
    · exact (by rw [show pm_br .ge x _ _ = _ from if_pos q] at h; exact h.2 H locs ls hl hH hS hn)
    · exact (by rw [show pm_br .ge x _ _ = _ from if_neg q] at h; exact h.2 H locs ls hl hH hS hn)
  · refine lv_if_gt hx hb hd ht (fun q => ?_) (fun q => ?_)
    · exact (by rw [show pm_br .gt x _ _ = _ from if_pos q] at h; exact h.2 H locs ls hl hH hS hn)
    · exact (by rw [show pm_br .gt x _ _ = _ from if_neg q] at h; exact h.2 H locs ls hl hH hS hn)
  · refine lv_if_le hx hb hd ht (fun q => ?_) (fun q => ?_)
    · exact (by rw [show pm_br .le x _ _ = _ from if_pos q] at h; exact h.2 H locs ls hl hH hS hn)
    · exact (by rw [show pm_br .le x _ _ = _ from if_neg q] at h; exact h.2 H locs ls hl hH hS hn)
theorem pm_s_br2 {cd : Jvm.ClassFile.Cond} {off : Int} {tgt : Nat} {x y : Int32} (E : pm_E G sc M d p R s m args meth c) (hd : decode M.2.1 pc = .ok (.if_icmp cd off, 3)) (ht : (pc : Int) + off = (tgt : Int))
    (h : pm_br2 cd x y (pm_kk p l e R s m args below meth c Q G M.2.2.1 n0 nf tgt lv st u) (pm_kk p l e R s m args below meth c Q G M.2.2.1 n0 nf (pc + 3) lv st u)) {v w : pm_V} (hv : pm_vl G.2.2.1 G.2.2.2 v = .int x) (hw : pm_vl G.2.2.1 G.2.2.2 w = .int y) : pm_PW p l e R s m args below meth c Q G M.2.2.1 n0 pc lv (w :: v :: st) u := by
  obtain ⟨hx, hb, -⟩ := E
  intro H locs ls hl hH hS hn
  rw [List.map_cons, List.map_cons, hv, hw]
  cases cd
  · refine lv_icmp_eq hx hb hd ht (fun q => ?_) (fun q => ?_)
    · exact (by rw [show pm_br2 .eq x y _ _ = _ from if_pos q] at h; exact h.2 H locs ls hl hH hS hn)
    · exact (by rw [show pm_br2 .eq x y _ _ = _ from if_neg q] at h; exact h.2 H locs ls hl hH hS hn)
  · refine lv_icmp_ne hx hb hd ht (fun q => ?_) (fun q => ?_)
    · exact (by rw [show pm_br2 .ne x y _ _ = _ from if_neg q] at h; exact h.2 H locs ls hl hH hS hn)
    · exact (by rw [show pm_br2 .ne x y _ _ = _ from if_pos q] at h; exact h.2 H locs ls hl hH hS hn)
  · refine lv_icmp_lt hx hb hd ht (fun q => ?_) (fun q => ?_)
    · exact (by rw [show pm_br2 .lt x y _ _ = _ from if_pos q] at h; exact h.2 H locs ls hl hH hS hn)
    · exact (by rw [show pm_br2 .lt x y _ _ = _ from if_neg q] at h; exact h.2 H locs ls hl hH hS hn)
  · refine lv_icmp_ge hx hb hd ht (fun q => ?_) (fun q => ?_)
    · exact (by rw [show pm_br2 .ge x y _ _ = _ from if_pos q] at h; exact h.2 H locs ls hl hH hS hn)
    · exact (by rw [show pm_br2 .ge x y _ _ = _ from if_neg q] at h; exact h.2 H locs ls hl hH hS hn)
  · refine lv_icmp_gt hx hb hd ht (fun q => ?_) (fun q => ?_)
    · exact (by rw [show pm_br2 .gt x y _ _ = _ from if_pos q] at h; exact h.2 H locs ls hl hH hS hn)
    · exact (by rw [show pm_br2 .gt x y _ _ = _ from if_neg q] at h; exact h.2 H locs ls hl hH hS hn)
  · refine lv_icmp_le hx hb hd ht (fun q => ?_) (fun q => ?_)
    · exact (by rw [show pm_br2 .le x y _ _ = _ from if_pos q] at h; exact h.2 H locs ls hl hH hS hn)
    · exact (by rw [show pm_br2 .le x y _ _ = _ from if_neg q] at h; exact h.2 H locs ls hl hH hS hn)
/-- a branch on a boolean is one on 0 or 1 -/
theorem pm_brb_br {cd : Jvm.ClassFile.Cond} {x : Bool} {A B : Prop} (h : pm_brb cd x A B False) : pm_br cd (bif x then 1 else 0) A B := by
  cases cd <;> cases x <;> first | exact h.elim | exact h | (simp [pm_brb] at h; simp [pm_br]; exact h)
theorem pm_brb2_br {cd : Jvm.ClassFile.Cond} {x y : Bool} {A B : Prop} (h : pm_brb2 cd x y A B False) : pm_br2 cd (bif x then 1 else 0) (bif y then 1 else 0) A B := by
  cases cd <;> cases x <;> cases y <;> first | exact h.elim | exact h | (simp [pm_brb2] at h; simp [pm_br2]; exact h)
theorem pm_sw_spec {x : Int32} {K : Nat → Prop} {t0 : Nat} : ∀ (ts : List Nat) (v : Nat), v + ts.length < 1000 → pm_sw x K t0 ts v → ((∃ i t, ts[i]? = some t ∧ x = Int32.ofNat (v + i) ∧ K t) ∨ ((∀ i, i < ts.length → x ≠ Int32.ofNat (v + i)) ∧ K t0))
  | [], v, _, h => Or.inr ⟨fun i hi => absurd hi (Nat.not_lt_zero i), h⟩
  | t :: ts, v, hv, h => by
    have hv' : v + 1 + ts.length < 1000 := by simp at hv; omega
    by_cases q : x = Int32.ofNat v
    · rw [show pm_sw x K t0 (t :: ts) v = _ from if_pos q] at h
      exact Or.inl ⟨0, t, rfl, q, h⟩
    · rw [show pm_sw x K t0 (t :: ts) v = _ from if_neg q] at h
      rcases pm_sw_spec ts (v + 1) hv' h with ⟨i, t', h1, h2, h3⟩ | ⟨h1, h2⟩
      · exact Or.inl ⟨i + 1, t', h1, by rw [h2]; congr 1; omega, h3⟩
      · refine Or.inr ⟨fun i hi => ?_, h2⟩
        rcases i with _ | i
        · exact q
        · have := h1 i (by simp at hi; omega)
          rw [show v + (i + 1) = v + 1 + i by omega]
          exact this
def pm_mem (ins : Jvm.ClassFile.Instr) : Bool := match ins with
  | .getfield _ => true
  | .putfield _ => true
  | .iaload => true
  | .baload => true
  | .aaload => true
  | .iastore => true
  | .bastore => true
  | .aastore => true
  | .arraylength => true
  | .new _ => true
  | .newarray _ => true
  | .anewarray _ => true
  | .invokevirtual _ => true
  | .invokespecial _ => true
  | .invokestatic _ => true
  | _ => false
/-- the instructions that don't touch the memory -/
theorem pm_s_plain {ins : Jvm.ClassFile.Instr} {rk : Nat} (E : pm_E G sc M d p R s m args meth c) (hd : decode M.2.1 pc = .ok (ins, pm_len ins (nx - pc))) (hnx : nx = pc + pm_len ins (nx - pc)) (ho : pm_oki MT M pc ins ax = true) (hrk : M.2.2.2.2.2 = rk) (hu : u.1 ≤ nf)
    (hp : pm_mem ins = false)
    (h : pm_do cal sc rk ins nx ax lv st u (pm_kk p l e R s m args below meth c Q G M.2.2.1 n0 nf) (pm_PE p l e R s m args below meth c Q G M.2.1 rk n0) False) : pm_PW p l e R s m args below meth c Q G M.2.2.1 n0 pc lv st u := by
  have E0 := E
  obtain ⟨hx, hb, -, hown, hga, -⟩ := E
  cases ins
  case iconst n => simp only [pm_len] at hnx hd; subst hnx; exact pm_s_push (fun k => lv_iconst hx hb hd rfl k) h
  case bipush n => simp only [pm_len] at hnx hd; subst hnx; exact pm_s_push (fun k => lv_bipush hx hb hd (of_decide_eq_true ho) k) h
  case sipush n => simp only [pm_len] at hnx hd; subst hnx; exact pm_s_push (fun k => lv_sipush hx hb hd (of_decide_eq_true ho) k) h
  case ldc i => simp only [pm_len] at hnx hd; subst hnx; exact pm_s_push (fun k => lv_ldc hx hb hown (hga _ (pm_in ho)) hd k) h
  case iload_n k =>
    simp only [pm_len] at hnx hd; subst hnx
    obtain ⟨w, hw, hk, hy⟩ := pm_ld_spec (by simpa only [pm_do] using h)
    obtain ⟨y, hy⟩ := hy G.2.2.1 G.2.2.2
    intro H locs ls hl hH hS hn
    have k1 := hk.2 H locs ls hl hH hS hn
    rw [List.map_cons, hy] at k1
    exact lv_iload_n hx hb hd rfl (by rw [pm_at hl hw, hy]) k1
  case iload i =>
    simp only [pm_len] at hnx hd; subst hnx
    obtain ⟨w, hw, hk, hy⟩ := pm_ld_spec (by simpa only [pm_do] using h)
    obtain ⟨y, hy⟩ := hy G.2.2.1 G.2.2.2
    intro H locs ls hl hH hS hn
    have k1 := hk.2 H locs ls hl hH hS hn
    rw [List.map_cons, hy] at k1
    exact lv_iload hx hb hd (by rw [pm_at hl hw, hy]) k1
  case aload_n k =>
    simp only [pm_len] at hnx hd; subst hnx
    obtain ⟨w, hw, hk, hy⟩ := pm_la_spec (by simpa only [pm_do] using h)
    intro H locs ls hl hH hS hn
    have k1 := hk.2 H locs ls hl hH hS hn
    rcases hy G.2.2.1 G.2.2.2 with hy | ⟨y, hy⟩
    · rw [List.map_cons, hy] at k1
      exact lv_aload_nN hx hb hd rfl (by rw [pm_at hl hw, hy]) k1
    · rw [List.map_cons, hy] at k1
      exact lv_aload_n hx hb hd rfl (by rw [pm_at hl hw, hy]) k1
  case aload i =>
    simp only [pm_len] at hnx hd; subst hnx
    obtain ⟨w, hw, hk, hy⟩ := pm_la_spec (by simpa only [pm_do] using h)
    intro H locs ls hl hH hS hn
    have k1 := hk.2 H locs ls hl hH hS hn
    rcases hy G.2.2.1 G.2.2.2 with hy | ⟨y, hy⟩
    · rw [List.map_cons, hy] at k1
      exact lv_aloadN hx hb hd (by rw [pm_at hl hw, hy]) k1
    · rw [List.map_cons, hy] at k1
      exact lv_aload hx hb hd (by rw [pm_at hl hw, hy]) k1
  case istore_n k =>
    simp only [pm_len] at hnx hd; subst hnx
    obtain ⟨w, st', rfl, hk, hy⟩ := pm_si_spec (by simpa only [pm_do] using h)
    obtain ⟨y, hy⟩ := hy G.2.2.1 G.2.2.2
    intro H locs ls hl hH hS hn
    rw [List.map_cons, hy]
    exact lv_istore_n hx hb hd rfl hl (pm_blt ho) (by rw [← hy]; exact pm_lset_eq _ _ _ _ _) (fun ls' hl' => hk.2 H locs ls' hl' hH hS hn)
  case istore i =>
    simp only [pm_len] at hnx hd; subst hnx
    obtain ⟨w, st', rfl, hk, hy⟩ := pm_si_spec (by simpa only [pm_do] using h)
    obtain ⟨y, hy⟩ := hy G.2.2.1 G.2.2.2
    intro H locs ls hl hH hS hn
    rw [List.map_cons, hy]
    exact lv_istore hx hb hd hl (pm_blt ho) (by rw [← hy]; exact pm_lset_eq _ _ _ _ _) (fun ls' hl' => hk.2 H locs ls' hl' hH hS hn)
  case astore_n k =>
    simp only [pm_len] at hnx hd; subst hnx
    obtain ⟨w, st', rfl, hk, hy⟩ := pm_sa_spec (by simpa only [pm_do] using h)
    intro H locs ls hl hH hS hn
    rcases hy G.2.2.1 G.2.2.2 with hy | ⟨y, hy⟩
    · rw [List.map_cons, hy]
      exact lv_astore_nN hx hb hd rfl hl (pm_blt ho) (by rw [← hy]; exact pm_lset_eq _ _ _ _ _) (fun ls' hl' => hk.2 H locs ls' hl' hH hS hn)
    · rw [List.map_cons, hy]
      exact lv_astore_n hx hb hd rfl hl (pm_blt ho) (by rw [← hy]; exact pm_lset_eq _ _ _ _ _) (fun ls' hl' => hk.2 H locs ls' hl' hH hS hn)
  case astore i =>
    simp only [pm_len] at hnx hd; subst hnx
    obtain ⟨w, st', rfl, hk, hy⟩ := pm_sa_spec (by simpa only [pm_do] using h)
    intro H locs ls hl hH hS hn
    rcases hy G.2.2.1 G.2.2.2 with hy | ⟨y, hy⟩
    · rw [List.map_cons, hy]
      exact lv_astoreN hx hb hd hl (pm_blt ho) (by rw [← hy]; exact pm_lset_eq _ _ _ _ _) (fun ls' hl' => hk.2 H locs ls' hl' hH hS hn)
    · rw [List.map_cons, hy]
      exact lv_astore hx hb hd hl (pm_blt ho) (by rw [← hy]; exact pm_lset_eq _ _ _ _ _) (fun ls' hl' => hk.2 H locs ls' hl' hH hS hn)
  case iinc i n =>
    simp only [pm_len] at hnx hd; subst hnx
    change (match pm_lget lv i with | some (.inl x) => pm_kk p l e R s m args below meth c Q G M.2.2.1 n0 nf (pc + 3) (pm_lset lv i (.inl (x + Int32.ofInt n))) st u | _ => False) at h
    cases hw : pm_lget lv i with
    | none => rw [hw] at h; exact h.elim
    | some w =>
      rw [hw] at h
      rcases w with x | w
      · intro H locs ls hl hH hS hn
        obtain ⟨k, hk⟩ := List.getElem?_of_mem (show (i, Value.int x) ∈ pm_lvv G.2.2.1 G.2.2.2 lv from List.mem_map.mpr ⟨(i, .inl x), pm_lget_mem lv i _ hw, rfl⟩)
        exact lv_iinc hx hb hd hl hk rfl (pm_blt ho) (pm_lset_eq _ _ i (.inl (x + Int32.ofInt n)) lv) (fun ls' hl' => h.2 H locs ls' hl' hH hS hn)
      · exact h.elim
  case iadd => simp only [pm_len] at hnx hd; subst hnx; obtain ⟨x, y, st', rfl, hk⟩ := pm_op2_spec h; exact fun H locs ls hl hH hS hn => lv_iadd hx hb hd (hk.2 H locs ls hl hH hS hn)
  case isub => simp only [pm_len] at hnx hd; subst hnx; obtain ⟨x, y, st', rfl, hk⟩ := pm_op2_spec h; exact fun H locs ls hl hH hS hn => lv_isub hx hb hd (hk.2 H locs ls hl hH hS hn)
  case imul => simp only [pm_len] at hnx hd; subst hnx; obtain ⟨x, y, st', rfl, hk⟩ := pm_op2_spec h; exact fun H locs ls hl hH hS hn => lv_imul hx hb hd (hk.2 H locs ls hl hH hS hn)
  case iand => simp only [pm_len] at hnx hd; subst hnx; obtain ⟨x, y, st', rfl, hk⟩ := pm_op2_spec h; exact fun H locs ls hl hH hS hn => lv_iand hx hb hd (hk.2 H locs ls hl hH hS hn)
  case ior => simp only [pm_len] at hnx hd; subst hnx; obtain ⟨x, y, st', rfl, hk⟩ := pm_op2_spec h; exact fun H locs ls hl hH hS hn => lv_ior hx hb hd (hk.2 H locs ls hl hH hS hn)
  case ishl => simp only [pm_len] at hnx hd; subst hnx; obtain ⟨x, y, st', rfl, hk⟩ := pm_op2_spec h; exact fun H locs ls hl hH hS hn => lv_ishl hx hb hd (hk.2 H locs ls hl hH hS hn)
  case ishr => simp only [pm_len] at hnx hd; subst hnx; obtain ⟨x, y, st', rfl, hk⟩ := pm_op2_spec h; exact fun H locs ls hl hH hS hn => lv_ishr hx hb hd (hk.2 H locs ls hl hH hS hn)
  case idiv =>
    simp only [pm_len] at hnx hd; subst hnx
    obtain ⟨x, y, st', rfl, hk⟩ := pm_op2_spec h
    by_cases hy : y = 0
    · rw [if_pos hy] at hk; exact hk.elim
    · rw [if_neg hy] at hk; exact fun H locs ls hl hH hS hn => lv_idiv hx hb hd hy (hk.2 H locs ls hl hH hS hn)
  case irem =>
    simp only [pm_len] at hnx hd; subst hnx
    obtain ⟨x, y, st', rfl, hk⟩ := pm_op2_spec h
    by_cases hy : y = 0
    · rw [if_pos hy] at hk; exact hk.elim
    · rw [if_neg hy] at hk; exact fun H locs ls hl hH hS hn => lv_irem hx hb hd hy (hk.2 H locs ls hl hH hS hn)
  case dup =>
    simp only [pm_len] at hnx hd; subst hnx
    rcases st with _ | ⟨v, st⟩
    · exact h.elim
    · exact fun H locs ls hl hH hS hn => lv_dup hx hb hd (pm_cat _ _ v) (h.2 H locs ls hl hH hS hn)
  case dup2 =>
    simp only [pm_len] at hnx hd; subst hnx
    rcases st with _ | ⟨v, _ | ⟨w, st⟩⟩
    · exact h.elim
    · exact h.elim
    · exact fun H locs ls hl hH hS hn => lv_dup2_11 hx hb hd (pm_cat _ _ v) (pm_cat _ _ w) (h.2 H locs ls hl hH hS hn)
  case goto off => exact fun H locs ls hl hH hS hn => lv_goto hx hb hd (of_decide_eq_true ho) (h.2 H locs ls hl hH hS hn)
  case ifCond cd off =>
    simp only [pm_len] at hnx hd; subst hnx
    rcases st with _ | ⟨x | w | q, st⟩
    · exact h.elim
    · exact pm_s_br E0 hd (of_decide_eq_true ho) h rfl
    · exact pm_s_br E0 hd (of_decide_eq_true ho) (pm_brb_br h) rfl
    · exact h.elim
  case if_icmp cd off =>
    simp only [pm_len] at hnx hd; subst hnx
    rcases st with _ | ⟨y | y | q, _ | ⟨x | x | q2, st⟩⟩
    · exact h.elim
    · exact h.elim
    · exact pm_s_br2 E0 hd (of_decide_eq_true ho) h rfl rfl
    · exact h.elim
    · exact h.elim
    · exact h.elim
    · exact h.elim
    · exact pm_s_br2 E0 hd (of_decide_eq_true ho) (pm_brb2_br h) rfl rfl
    · exact h.elim
    · exact h.elim
    · exact h.elim
    · exact h.elim
    · exact h.elim
  case tableswitch dd lo hi offs =>
    rcases ax with _ | ⟨t0, ts⟩
    · exact h.elim
    · rcases st with _ | ⟨x | w, st⟩
      · exact h.elim
      · simp only [pm_oki, Bool.and_eq_true, decide_eq_true_eq] at ho
        obtain ⟨⟨⟨⟨hlo, hhi⟩, hdf⟩, hof⟩, hts⟩ := ho
        have hts' := pm_blt hts
        intro H locs ls hl hH hS hn
        rcases pm_sw_spec ts 0 (by omega) h with ⟨i, t, h1, h2, h3⟩ | ⟨h1, h2⟩
        · have hi : i < ts.length := (List.getElem?_eq_some_iff.mp h1).1
          have hxi : x.toInt = (i : Int) := by rw [h2, Nat.zero_add]; exact nI_toInt (by omega)
          have ho2 : (offs.toList.map (fun o => (pc : Int) + o))[i]? = some (t : Int) := by rw [hof, List.getElem?_map, h1]; rfl
          rw [List.getElem?_map] at ho2
          cases hq : offs.toList[i]? with
          | none => rw [hq] at ho2; cases ho2
          | some o =>
            rw [hq] at ho2
            refine lv_tableIn hx hb hd (by rw [hxi, hlo]; omega) (by rw [hxi]; omega) (off := o) ?_ (Option.some.inj ho2) (h3.2 H locs ls hl hH hS hn)
            rw [hxi, hlo, show ((i : Int) - 0).toNat = i by omega, ← Array.getElem?_toList]
            exact hq
        · refine lv_tableOut hx hb hd ?_ hdf (h2.2 H locs ls hl hH hS hn)
          by_cases hneg : x.toInt < 0
          · exact Or.inl (by rw [hlo]; exact hneg)
          · refine Or.inr ?_
            by_cases hbig : hi < x.toInt
            · exact hbig
            · exfalso
              have := h1 x.toInt.toNat (by omega)
              apply this
              rw [Nat.zero_add]
              apply Int32.toInt_inj.mp
              rw [show (Int32.ofNat x.toInt.toNat).toInt = (x.toInt.toNat : Int) from nI_toInt (by omega)]
              omega
      · exact h.elim
  case ireturn =>
    have hd1 : decode M.2.1 pc = .ok (.ireturn, 1) := hd
    rcases rk with _ | _ | _ | rk
    · exact h.elim
    · rcases st with _ | ⟨x | w, _ | ⟨v2, st⟩⟩
      · exact h.elim
      · exact fun H locs ls hl hH hS hn => h H locs ls pc hH hS hn trivial hd1
      · exact h.elim
      · exact h.elim
      · exact h.elim
    · rcases st with _ | ⟨x | w | q, _ | ⟨v2, st⟩⟩
      · exact h.elim
      · change (if x = 0 then _ else if x = 1 then _ else False) at h
        intro H locs ls hl hH hS hn
        by_cases h0 : x = 0
        · rw [if_pos h0] at h
          subst h0
          exact h H locs ls pc hH hS hn trivial hd1
        · rw [if_neg h0] at h
          by_cases h1 : x = 1
          · rw [if_pos h1] at h
            subst h1
            exact h H locs ls pc hH hS hn trivial hd1
          · rw [if_neg h1] at h
            exact h.elim
      · exact h.elim
      · exact fun H locs ls hl hH hS hn => h H locs ls pc hH hS hn trivial hd1
      · exact h.elim
      · exact h.elim
      · exact h.elim
    · exact h.elim
  case areturn =>
    rcases rk with _ | _ | _ | _ | rk
    · exact h.elim
    · exact h.elim
    · exact h.elim
    · rcases st with _ | ⟨x | w | q | q, _ | ⟨v2, st⟩⟩
      · exact h.elim
      · exact h.elim
      · exact h.elim
      · exact h.elim
      · exact h.elim
      · exact fun H locs ls hl hH hS hn => h H locs ls pc hH hS hn trivial hd
      · exact h.elim
      · exact h.elim
      · exact h.elim
    · exact h.elim
  case return_ =>
    rcases rk with _ | rk
    · rcases st with _ | ⟨v, st⟩
      · exact fun H locs ls hl hH hS hn => h H locs ls pc hH hS hn trivial hd
      · exact h.elim
    · exact h.elim
  all_goals first | exact h.elim | cases hp
end PMW
end
section
/-! The memory's instructions. -/
theorem pm_fdw : pm_fd.all (fun q => (u_ws q.1 (pm_T q.2) q.2.length).all pm_has) = true := by decide +kernel
def pm_ft (q : pm_Fd) : FieldType := (parseFieldDescriptor q.2.2.1).getD .int
def pm_isr (t : FieldType) : Bool := match t with
  | .object _ => true
  | .array _ => true
  | _ => false
theorem pm_fdt : pm_fd.all (fun q => (List.range q.2.length).all (fun k => decide (parseFieldDescriptor (pm_T q.2 k).2.2.1 = some (pm_ft (q.2.getD k ("", "", "", false, 0)))))) = true := by decide +kernel
theorem pm_fdy : pm_fd.all (fun q => q.2.all (fun f => (decide (f.2.2.2.2 = 0) && decide (pm_ft f = .int)) || (decide (f.2.2.2.2 = 1) && decide (pm_ft f = .boolean)) || (decide (f.2.2.2.2 = 2) && pm_isr (pm_ft f)))) = true := by decide +kernel
theorem pm_fdn : pm_fd.all (fun q => (List.range q.2.length).all (fun a => (List.range q.2.length).all (fun b => decide (a = b) || decide ((pm_T q.2 a).2.1 ≠ (pm_T q.2 b).2.1)))) = true := by decide +kernel
theorem pm_fd_cn : (List.range 7).all (fun ci => decide ((pm_fd.getD ci ("", [])).1 = pm_cn ci)) = true := by decide +kernel
/-- what is known of a kind of object and one of its slots -/
theorem pm_slot {ci j : Nat} {C : String} {fs : List pm_Fd} {q : pm_Fd} (h : pm_fd[ci]? = some (C, fs)) (hj : fs[j]? = some q) :
    pm_cl[ci]? = some (C, pm_T fs, fs.length) ∧ pm_fs0 ci = fs ∧ j < fs.length ∧ pm_T fs j = (q.1, q.2.1, q.2.2.1, q.2.2.2.1) ∧ (pm_tl fs).getD j 0 = q.2.2.2.2 ∧ (∀ w ∈ u_ws C (pm_T fs) fs.length, w ∈ pm_ga) ∧ (∀ k, k < fs.length → parseFieldDescriptor (pm_T fs k).2.2.1 = some (pm_ft (fs.getD k ("", "", "", false, 0)))) ∧ (∀ a, a < fs.length → ∀ b, b < fs.length → a ≠ b → (pm_T fs a).2.1 ≠ (pm_T fs b).2.1) ∧ fs.getD j ("", "", "", false, 0) = q ∧ ((q.2.2.2.2 = 0 ∧ pm_ft q = .int) ∨ (q.2.2.2.2 = 1 ∧ pm_ft q = .boolean) ∨ (q.2.2.2.2 = 2 ∧ pm_isr (pm_ft q) = true)) := by
  have hm : (C, fs) ∈ pm_fd := List.mem_of_getElem? h
  have hl : j < fs.length := (List.getElem?_eq_some_iff.mp hj).1
  have hg : fs.getD j ("", "", "", false, 0) = q := by rw [List.getD_eq_getElem?_getD, hj]; rfl
  refine ⟨by unfold pm_cl; rw [List.getElem?_map, h]; rfl, by unfold pm_fs0; rw [List.getD_eq_getElem?_getD, h]; rfl, hl, by unfold pm_T; rw [hg], by unfold pm_tl; rw [List.getD_eq_getElem?_getD, List.getElem?_map, hj]; rfl, fun w hw => ?_, fun k hk => ?_, fun a ha b hb hab => ?_, hg, ?_⟩
  · exact pm_in (List.all_eq_true.mp (List.all_eq_true.mp pm_fdw _ hm) w hw)
  · exact of_decide_eq_true (List.all_eq_true.mp (List.all_eq_true.mp pm_fdt _ hm) k (List.mem_range.mpr hk))
  · have h1 := List.all_eq_true.mp (List.all_eq_true.mp (List.all_eq_true.mp pm_fdn _ hm) a (List.mem_range.mpr ha)) b (List.mem_range.mpr hb)
    simp only [Bool.or_eq_true, decide_eq_true_eq] at h1
    rcases h1 with h1 | h1
    · exact absurd h1 hab
    · exact h1
  · have h1 := List.all_eq_true.mp (List.all_eq_true.mp pm_fdy _ hm) q (List.mem_of_getElem? hj)
    simp only [Bool.or_eq_true, Bool.and_eq_true, decide_eq_true_eq] at h1
    rcases h1 with (h1 | h1) | h1
    · exact Or.inl h1
    · exact Or.inr (Or.inl h1)
    · exact Or.inr (Or.inr h1)
theorem pm_fok_spec {own : String} {i ci j ty : Nat} (h : pm_fok own i ci j ty = true) : ∃ (C : String) (fs : List pm_Fd) (q : pm_Fd) (ref : String), pm_fd[ci]? = some (C, fs) ∧ fs[j]? = some q ∧ q.2.2.2.2 = ty ∧ Cond.fieldLink own i ref q.2.1 q.2.2.1 ∈ pm_ga ∧ (ref = q.1 ∨ Cond.sameField ref q.1 q.2.1 q.2.2.1 ∈ pm_ga) := by
  unfold pm_fok at h
  cases h1 : pm_fd[ci]? with
  | none => rw [h1] at h; cases h
  | some Cf =>
    obtain ⟨C, fs⟩ := Cf
    rw [h1] at h
    dsimp only at h
    cases h2 : fs[j]? with
    | none => rw [h2] at h; cases h
    | some q =>
      obtain ⟨D, nm, ds, fin, t⟩ := q
      rw [h2] at h
      simp only [Bool.and_eq_true, List.any_eq_true, Bool.or_eq_true] at h
      obtain ⟨ht, hl | ⟨ref, -, hs, hl⟩⟩ := h
      · exact ⟨C, fs, _, _, rfl, h2, pm_beq ht, pm_in hl, Or.inl rfl⟩
      · exact ⟨C, fs, _, ref, rfl, h2, pm_beq ht, pm_in hl, Or.inr (pm_in hs)⟩
section PMM
variable {p : Program} {l : Launch} {e : Env} {R : Room} {s : State} {m : MethodId} {args : Array Value} {below : List Frame} {meth : Method} {c : Code} {Q : State → Prop}
variable {G : pm_G} {sc : pm_Sc} {M : pm_Mt} {d n0 nf : Nat} {MT : List pm_Mt} {pc : Nat} {ax : List Nat} {lv : pm_Lv} {st : List pm_V} {u : pm_S}
variable {H : Heap} {locs : List Loc} {cells slots : Nat} {ls : Array Slot} {rest : List Value}
theorem pm_w_get (E : pm_E G sc M d p R s m args meth c) (hH : pm_H G u H) {i k ci j ty : Nat} (hcls : pm_cls u.1 k = some ci) (hf : pm_fok M.1.cls i ci j ty = true) (hd : decode M.2.1 pc = .ok (.getfield i, 3))
    (kk : W p l e R s m args below meth c H locs cells slots Q (F0 m (pc + 3) ls (pm_vl G.2.2.1 G.2.2.2 (pm_get ty k j u) :: rest))) : W p l e R s m args below meth c H locs cells slots Q (F0 m pc ls (.ref (G.2.2.1 + k) :: rest)) := by
  obtain ⟨hx, hb, -, hown, hga, hK, -⟩ := E
  obtain ⟨C, fs, q, ref, h1, h2, hty, hl, hs⟩ := pm_fok_spec hf
  obtain ⟨hc, h0, hj, hT, htl, hw, -⟩ := pm_slot h1 h2
  obtain ⟨hk, hkd⟩ := pm_cls_spec hcls
  have he := pm_ws_get (G := G) hk
  rw [pm_kx_of hkd] at he
  refine va_get (D := G.1) (own := M.1.cls) (ref := ref) (Ts := pm_ga) hx hb hga hw hown hK.1 hH.2 k he hc j hj (by rw [hT]; exact hga _ hl) ?_ (v := pm_vl G.2.2.1 G.2.2.2 (pm_get ty k j u)) ?_ hd kk
  · rw [hT]
    intro y hy
    rcases hs with rfl | hs
    · exact hy
    · exact u_same (hga _ hs) y hy
  · rw [h0, pm_fs_get (by unfold pm_tl; rw [List.length_map]; exact hj), htl, hty, pm_vl_get]
/-- a field is written: any value that fits -/
theorem pm_w_put (E : pm_E G sc M d p R s m args meth c) (hH : pm_H G u H) (hS : va_S (pm_A G) s.heap H locs) {i k ci j ty : Nat} (hcls : pm_cls u.1 k = some ci) (hf : pm_fok M.1.cls i ci j ty = true) (hfin : pm_fin M.1.cls (decide (M.1.name = "<init>")) ci j = true) {v : Value} {u' : pm_S}
    (hn1 : u'.1 = u.1) (hval : pm_sv ty G.2.2.1 (u'.2.1 k j) (u'.2.2.1 k j) (u'.2.2.2 k j) = v) (hfit : ∀ q : pm_Fd, q.2.2.2.2 = ty → ((q.2.2.2.2 = 0 ∧ pm_ft q = .int) ∨ (q.2.2.2.2 = 1 ∧ pm_ft q = .boolean) ∨ (q.2.2.2.2 = 2 ∧ pm_isr (pm_ft q) = true)) → narrow (pm_ft q) v = v ∧ fits (pm_ft q) v = true)
    (hxa : ∀ a b, ¬ (a = k ∧ b = j) → u'.2.1 a b = u.2.1 a b) (hwa : ∀ a b, ¬ (a = k ∧ b = j) → u'.2.2.1 a b = u.2.2.1 a b) (hra : ∀ a b, ¬ (a = k ∧ b = j) → u'.2.2.2 a b = u.2.2.2 a b) (hd : decode M.2.1 pc = .ok (.putfield i, 3))
    (kk : ∀ (H1 : Heap) (locs1 : List Loc), pm_H G u' H1 → va_S (pm_A G) s.heap H1 locs1 → W p l e R s m args below meth c H1 locs1 cells slots Q (F0 m (pc + 3) ls rest)) : W p l e R s m args below meth c H locs cells slots Q (F0 m pc ls (v :: .ref (G.2.2.1 + k) :: rest)) := by
  obtain ⟨hx, hb, -, hown, hga, hK, -, hini, -⟩ := E
  obtain ⟨C, fs, q, ref, h1, h2, hty, hl, hs⟩ := pm_fok_spec hf
  obtain ⟨hc, h0, hj, hT, htl, hw, hpt, hnm, hgd, hkind0⟩ := pm_slot h1 h2
  obtain ⟨hk, hkd⟩ := pm_cls_spec hcls
  have he := pm_ws_get (G := G) hk
  rw [pm_kx_of hkd] at he
  have hsame : ∀ y, s.fieldFound? (pm_T fs j).1 (pm_T fs j).2.1 (pm_T fs j).2.2.1 = some y → s.fieldFound? ref (pm_T fs j).2.1 (pm_T fs j).2.2.1 = some y := by
    rw [hT]
    intro y hy
    rcases hs with rfl | hs
    · exact hy
    · exact u_same (hga _ hs) y hy
  have hlink : (Cond.fieldLink M.1.cls i ref (pm_T fs j).2.1 (pm_T fs j).2.2.1).before args s = true := by rw [hT]; exact hga _ hl
  have hd2 : parseFieldDescriptor (pm_T fs j).2.2.1 = some (pm_ft q) := by rw [hpt j hj, hgd]
  have hap := va_apart (own := M.1.cls) hga hw _ hpt hnm hK.1 hc
  obtain ⟨hn, hft⟩ := hfit q hty hkind0
  obtain ⟨q', g1, cell, q1, q2, q3, q4⟩ := hH.2 k _ he
  have hr : q' = (C, pm_T fs, fs.length) := Option.some.inj (g1.symm.trans hc)
  subst hr
  obtain ⟨hSl, hfc, kC, hkC, hkind⟩ := hK.1.1 ci _ hc
  obtain ⟨cf, kf, fi, f, hi, hsl⟩ := hSl j hj
  have hlay := hga _ (hw _ (u_in_lay hj))
  unfold u_lay at hlay
  have hst := (u_facts hfc hkC (u_lays hga hw hj) hi).1
  have hlen : j < (pm_fs (pm_tl (pm_fs0 ci)) G.2.2.1 (u.2.1 k) (u.2.2.1 k) (u.2.2.2 k)).length := by rw [pm_fs_len, h0]; unfold pm_tl; rw [List.length_map]; exact hj
  have hend : ∀ (H' : Heap), H'[G.2.2.1 + k]? = some (cell.setSlot f.slot v) → H'.size = H.size → (∀ q, q ≠ G.2.2.1 + k → H'[q]? = H[q]?) → W p l e R s m args below meth c H' (locs ++ [⟨G.2.2.1 + k, f.slot⟩]) cells slots Q (F0 m (pc + 3) ls rest) := by
    intro H' e1 e2 e3
    rw [hsl] at e1 ⊢
    refine kk H' _ ⟨by rw [e2, hn1]; exact hH.1, ?_⟩ (hS.put e2 e3 (pm_ws_D.2 k _ he))
    have hP := hH.2.set pm_ws_D he (e := .inr (ci, (pm_fs (pm_tl (pm_fs0 ci)) G.2.2.1 (u.2.1 k) (u.2.2.1 k) (u.2.2.2 k)).set j v)) ⟨_, hc, t_OB.to (V := updV (vp_V (pm_fs (pm_tl (pm_fs0 ci)) G.2.2.1 (u.2.1 k) (u.2.2.1 k) (u.2.2.2 k))) j v) ⟨_, e1, q2, q3, t_set q4 hap hj v⟩ (fun a _ => vp_updV_set hlen v a)⟩ e3
    rw [pm_ws_set (u' := u') hn1 ?_ (fun a ha => funext fun b => hxa a b (fun z => ha z.1)) (fun a ha => funext fun b => hwa a b (fun z => ha z.1)) (fun a ha => funext fun b => hra a b (fun z => ha z.1))] at hP
    · exact hP
    · rw [pm_kx_of hkd]
      show Sum.inr (ci, _) = Sum.inr (ci, _)
      rw [pm_fs_set (x' := u'.2.1 k) (w' := u'.2.2.1 k) (r' := u'.2.2.2 k) (by rw [h0]; unfold pm_tl; rw [List.length_map]; exact hj) (by rw [h0, htl, hty]; exact hval) (fun b hb => hxa k b (fun z => hb z.2)) (fun b hb => hwa k b (fun z => hb z.2)) (fun b hb => hra k b (fun z => hb z.2))]
  unfold pm_fin at hfin
  rw [h0, h2] at hfin
  by_cases hq : q.2.2.2.1 = true
  · simp only [hq, Bool.not_true, Bool.false_or, Bool.and_eq_true, decide_eq_true_eq] at hfin
    rw [if_pos (by rw [hT]; exact hq)] at hlay
    have hcf : m.cls = cf := by
      obtain ⟨_, _, c', _, _, _, -, -, hf', -, -, -, hown2, -⟩ := Cond.laysFinal_spec hlay
      have e1 : c' = cf := by have := hi.symm.trans hf'; simp at this; exact this.1.symm
      rw [show (pm_T fs j).1 = M.1.cls by rw [hT]; exact hfin.2] at hown2
      rw [← e1]; exact Option.some.inj (hown.symm.trans hown2)
    have h6 := u_fits hfc hkC hkind (Or.inr hlay) hi hd2 hn hft
    exact W.putFinK hx hb hown hlink (hsame _ hi) hst hcf (hini hfin.1) (by rw [q2]; exact h6) q1 q3 (by rw [hsl]; exact k2_hasslot (q4 j hj)) rfl rfl hd hend
  · rw [if_neg (by rw [hT]; exact hq)] at hlay
    have h6 := u_store hfc hkC hkind hlay hi hd2 hn hft
    exact W.putK hx hb (f := f) ⟨hown, hlink, ⟨_, _, _, hsame _ hi⟩, hst⟩ (by rw [q2]; exact h6) q1 q3 (by rw [hsl]; exact k2_hasslot (q4 j hj)) rfl rfl hd hend
/-- a store, and where it leads -/
theorem pm_put_spec {ty k j : Nat} {v : pm_V} {kg : pm_S → Prop} (h : pm_put ty k j v u kg False) (z b : Nat) : ∃ (u' : pm_S) (w : Value), kg u' ∧ pm_vl z b v = w ∧ u'.1 = u.1 ∧ pm_sv ty z (u'.2.1 k j) (u'.2.2.1 k j) (u'.2.2.2 k j) = w ∧ (∀ a b', ¬ (a = k ∧ b' = j) → u'.2.1 a b' = u.2.1 a b') ∧ (∀ a b', ¬ (a = k ∧ b' = j) → u'.2.2.1 a b' = u.2.2.1 a b') ∧ (∀ a b', ¬ (a = k ∧ b' = j) → u'.2.2.2 a b' = u.2.2.2 a b') ∧
    (∀ q : pm_Fd, q.2.2.2.2 = ty → ((q.2.2.2.2 = 0 ∧ pm_ft q = .int) ∨ (q.2.2.2.2 = 1 ∧ pm_ft q = .boolean) ∨ (q.2.2.2.2 = 2 ∧ pm_isr (pm_ft q) = true)) → narrow (pm_ft q) w = w ∧ fits (pm_ft q) w = true) ∧
    ((ty = 0 ∧ ∃ x, w = .int x ∧ u' = (u.1, pm_up u.2.1 k j x, u.2.2.1, u.2.2.2)) ∨ (ty = 1 ∧ ∃ x : Bool, w = .int (bif x then 1 else 0) ∧ u' = (u.1, u.2.1, pm_up u.2.2.1 k j x, u.2.2.2)) ∨ (ty = 2 ∧ ∃ x, w = .ref (z + x) ∧ u' = (u.1, u.2.1, u.2.2.1, pm_up u.2.2.2 k j (some x)))) := by
  have hup : ∀ {α : Type} (x : Nat → Nat → α) (y : α) (a b' : Nat), ¬ (a = k ∧ b' = j) → pm_up x k j y a b' = x a b' := fun x y a b' hn => by rw [pm_up_eq, if_neg hn]
  have hself : ∀ {α : Type} (x : Nat → Nat → α) (y : α), pm_up x k j y k j = y := fun x y => by rw [pm_up_at, if_pos rfl]
  have bool : ∀ (x : Bool) (v' : Value), v' = .int (bif x then 1 else 0) → ∀ q : pm_Fd, q.2.2.2.2 = 1 → ((q.2.2.2.2 = 0 ∧ pm_ft q = .int) ∨ (q.2.2.2.2 = 1 ∧ pm_ft q = .boolean) ∨ (q.2.2.2.2 = 2 ∧ pm_isr (pm_ft q) = true)) → narrow (pm_ft q) v' = v' ∧ fits (pm_ft q) v' = true := by
    intro x v' hv q h1 h2
    rcases h2 with ⟨h2, -⟩ | ⟨-, h2⟩ | ⟨h2, -⟩
    · rw [h1] at h2; cases h2
    · rw [h2, hv]
      cases x <;> exact ⟨by decide, by decide⟩
    · rw [h1] at h2; cases h2
  rcases ty with _ | _ | _ | ty <;> rcases v with x | w | (_ | q0) | w <;> first | exact h.elim | skip
  · refine ⟨_, _, h, rfl, rfl, congrArg Value.int (hself u.2.1 x), fun a b' hn => hup _ _ a b' hn, fun _ _ _ => rfl, fun _ _ _ => rfl, fun q h1 h2 => ?_, Or.inl ⟨rfl, x, rfl, rfl⟩⟩
    rcases h2 with ⟨-, h2⟩ | ⟨h2, -⟩ | ⟨h2, -⟩
    · rw [h2]; exact ⟨rfl, rfl⟩
    · rw [h1] at h2; cases h2
    · rw [h1] at h2; cases h2
  · change (if x = 0 then _ else if x = 1 then _ else False) at h
    by_cases h0 : x = 0
    · rw [if_pos h0] at h
      subst h0
      exact ⟨_, _, h, rfl, rfl, congrArg (fun q : Bool => Value.int (bif q then 1 else 0)) (hself u.2.2.1 false), fun _ _ _ => rfl, fun a b' hn => hup _ _ a b' hn, fun _ _ _ => rfl, bool false _ rfl, Or.inr (Or.inl ⟨rfl, false, rfl, rfl⟩)⟩
    · rw [if_neg h0] at h
      by_cases h1 : x = 1
      · rw [if_pos h1] at h
        subst h1
        exact ⟨_, _, h, rfl, rfl, congrArg (fun q : Bool => Value.int (bif q then 1 else 0)) (hself u.2.2.1 true), fun _ _ _ => rfl, fun a b' hn => hup _ _ a b' hn, fun _ _ _ => rfl, bool true _ rfl, Or.inr (Or.inl ⟨rfl, true, rfl, rfl⟩)⟩
      · rw [if_neg h1] at h
        exact h.elim
  · exact ⟨_, _, h, rfl, rfl, congrArg (fun q : Bool => Value.int (bif q then 1 else 0)) (hself u.2.2.1 w), fun _ _ _ => rfl, fun a b' hn => hup _ _ a b' hn, fun _ _ _ => rfl, bool w _ rfl, Or.inr (Or.inl ⟨rfl, w, rfl, rfl⟩)⟩
  · refine ⟨_, _, h, rfl, rfl, congrArg (fun q => va_rf (pm_rz z q)) (hself u.2.2.2 (some q0)), fun _ _ _ => rfl, fun _ _ _ => rfl, fun a b' hn => hup _ _ a b' hn, fun q h1 h2 => ?_, Or.inr (Or.inr ⟨rfl, q0, rfl, rfl⟩)⟩
    rcases h2 with ⟨h2, -⟩ | ⟨h2, -⟩ | ⟨-, h2⟩
    · rw [h1] at h2; cases h2
    · rw [h1] at h2; cases h2
    · show narrow (pm_ft q) (.ref (z + q0)) = .ref (z + q0) ∧ _
      revert h2
      cases pm_ft q <;> intro h2 <;> first | exact ⟨rfl, rfl⟩ | cases h2
theorem pm_any {ci : Nat} {cis : List Nat} {f : Nat → Bool} (h : cis.any (Nat.beq ci) = true) (hf : cis.all f = true) : f ci = true := by
  obtain ⟨x, hx, he⟩ := List.any_eq_true.mp h
  rw [pm_beq he]
  exact List.all_eq_true.mp hf x hx
theorem pm_s_get {i : Nat} {cal : Nat → List pm_V → pm_S → Option pm_Rs} {rk : Nat} {kr : pm_Rs → Prop} (E : pm_E G sc M d p R s m args meth c) (hd : decode M.2.1 pc = .ok (.getfield i, 3)) (ho : pm_oki MT M pc (.getfield i) ax = true)
    (h : pm_do cal sc rk (.getfield i) (pc + 3) ax lv st u (pm_kk p l e R s m args below meth c Q G M.2.2.1 n0 nf) kr False) : pm_PW p l e R s m args below meth c Q G M.2.2.1 n0 pc lv st u := by
  rcases ax with _ | ⟨j, _ | ⟨ty, cis⟩⟩
  · exact h.elim
  · exact h.elim
  · obtain ⟨k, ci, st', rfl, hcls, hk⟩ := pm_obj_spec h
    cases ha : cis.any (Nat.beq ci) with
    | false => rw [ha] at hk; exact hk.elim
    | true =>
      rw [ha] at hk
      exact fun H locs ls hl hH hS hn => pm_w_get E hH hcls (pm_any (f := fun ci => pm_fok M.1.cls i ci j ty) ha ho) hd (hk.2 H locs ls hl hH hS hn)
theorem pm_s_put {i : Nat} {cal : Nat → List pm_V → pm_S → Option pm_Rs} {rk : Nat} {kr : pm_Rs → Prop} (E : pm_E G sc M d p R s m args meth c) (hd : decode M.2.1 pc = .ok (.putfield i, 3)) (ho : pm_oki MT M pc (.putfield i) ax = true)
    (h : pm_do cal sc rk (.putfield i) (pc + 3) ax lv st u (pm_kk p l e R s m args below meth c Q G M.2.2.1 n0 nf) kr False) : pm_PW p l e R s m args below meth c Q G M.2.2.1 n0 pc lv st u := by
  rcases ax with _ | ⟨j, _ | ⟨ty, _ | ⟨fi, cis⟩⟩⟩
  · exact h.elim
  · exact h.elim
  · exact h.elim
  · rcases st with _ | ⟨v, st⟩
    · exact h.elim
    · obtain ⟨k, ci, st', rfl, hcls, hk⟩ := pm_obj_spec h
      cases ha : cis.any (Nat.beq ci) with
      | false => rw [ha] at hk; exact hk.elim
      | true =>
        rw [ha] at hk
        have hf := pm_any ha ho
        simp only [Bool.and_eq_true] at hf
        obtain ⟨u', w, k1, k2, k3, k4, k5, k6, k7, k8, -⟩ := pm_put_spec hk G.2.2.1 G.2.2.2
        intro H locs ls hl hH hS hn
        rw [List.map_cons, k2]
        refine pm_w_put E hH hS hcls hf.1 hf.2 k3 k4 k8 k5 k6 k7 hd (fun H1 locs1 hH1 hS1 => ?_)
        have := k1.2 H1 locs1 ls hl hH1 hS1 (by rw [k3]; exact hn)
        rw [k3] at this
        exact this
end PMM
end
section
/-! Arrays, and what is made. -/
theorem pm_ac_cell (cA : ClassId) (len t z : Nat) (x : Nat → Int32) (w : Nat → Bool) (r : Nat → Option Nat) : vp_cell cA (len, pm_ac t z x w r) = arrV cA len (fun j => pm_sv t z (x j) (w j) (r j)) := by
  rcases t with _ | _ | t <;> rfl
theorem pm_arrset {G : pm_G} {u u' : pm_S} {H H1 : Heap} {k t len j : Nat} {v : Value} (hH : pm_H G u H) (hk : k < u.1) (hkd : pm_kd k = some (.inr (t, len))) (e : H1[G.2.2.1 + k]? = some ((vp_cell (G.2.1 t) (len, pm_ac t G.2.2.1 (u.2.1 k) (u.2.2.1 k) (u.2.2.2 k))).setSlot j v)) (z : H1.size = H.size) (oq : ∀ q, q ≠ G.2.2.1 + k → H1[q]? = H[q]?)
    (hn : u'.1 = u.1) (hval : pm_sv t G.2.2.1 (u'.2.1 k j) (u'.2.2.1 k j) (u'.2.2.2 k j) = v) (hxa : ∀ a b, ¬ (a = k ∧ b = j) → u'.2.1 a b = u.2.1 a b) (hwa : ∀ a b, ¬ (a = k ∧ b = j) → u'.2.2.1 a b = u.2.2.1 a b) (hra : ∀ a b, ¬ (a = k ∧ b = j) → u'.2.2.2 a b = u.2.2.2 a b) : pm_H G u' H1 := by
  have ha := pm_ws_get (G := G) hk
  rw [pm_kx_of hkd] at ha
  have hP := hH.2.set (e := pm_cell G (.inr (t, len)) (u'.2.1 k) (u'.2.2.1 k) (u'.2.2.2 k)) pm_ws_D ha ?_ oq
  · rw [pm_ws_set (u' := u') hn (by rw [pm_kx_of hkd]) (fun a ha => funext fun b => hxa a b (fun z => ha z.1)) (fun a ha => funext fun b => hwa a b (fun z => ha z.1)) (fun a ha => funext fun b => hra a b (fun z => ha z.1))] at hP
    exact ⟨by rw [z, hn]; exact hH.1, hP⟩
  · show H1[G.2.2.1 + k]? = some (vp_cell (G.2.1 t) (len, pm_ac t G.2.2.1 (u'.2.1 k) (u'.2.2.1 k) (u'.2.2.2 k)))
    rw [e, pm_ac_cell, pm_ac_cell, arrV_store]
    congr 2
    funext b
    by_cases hb : b = j
    · subst hb
      simp only [updV, if_true]
      exact hval.symm
    · simp only [updV, if_neg hb]
      rw [hxa k b (fun z => hb z.2), hwa k b (fun z => hb z.2), hra k b (fun z => hb z.2)]
theorem pm_ald_spec {sc : pm_Sc} {t0 : Nat} {st : List pm_V} {u : pm_S} {kg : pm_V → List pm_V → Prop} (h : pm_ald sc t0 st u kg False) : ∃ i : Int32, (∃ k st' t len, st = .inl i :: .inr (.inr (.inl (some k))) :: st' ∧ pm_arr u.1 k = some (t, len) ∧ (t = t0 ∨ (t0 = 2 ∧ t = 3)) ∧ pm_ib i len = true ∧ kg (pm_get t0 k i.toNatClampNeg u) st') ∨ (∃ q st', st = .inl i :: .inr (.inr (.inr q)) :: st' ∧ t0 = 0 ∧ pm_ib i sc.1 = true ∧ kg (.inl (sc.2 i.toNatClampNeg)) st') := by
  rcases st with _ | ⟨i | v, _ | ⟨x | b | (_ | k) | q, st⟩⟩ <;> first | exact h.elim | skip
  · refine ⟨i, Or.inl ?_⟩
    change (match pm_arr u.1 k with | some (t, len) => _ | none => False) at h
    cases ha : pm_arr u.1 k with
    | none => rw [ha] at h; exact h.elim
    | some tl =>
      obtain ⟨t, len⟩ := tl
      rw [ha] at h
      dsimp only at h
      cases hb : ((Nat.beq t t0 || (Nat.beq t0 2 && Nat.beq t 3)) && pm_ib i len) with
      | false => rw [hb] at h; exact h.elim
      | true =>
        rw [hb] at h
        simp only [Bool.and_eq_true, Bool.or_eq_true] at hb
        refine ⟨k, st, t, len, rfl, ha, ?_, hb.2, h⟩
        rcases hb.1 with h1 | h1
        · exact Or.inl (pm_beq h1)
        · exact Or.inr ⟨pm_beq h1.1, pm_beq h1.2⟩
  · refine ⟨i, Or.inr ?_⟩
    change (bif Nat.beq t0 0 && pm_ib i sc.1 then _ else False) at h
    cases hb : (Nat.beq t0 0 && pm_ib i sc.1) with
    | false => rw [hb] at h; exact h.elim
    | true =>
      rw [hb] at h
      simp only [Bool.and_eq_true] at hb
      exact ⟨q, st, rfl, pm_beq hb.1, hb.2, h⟩
theorem pm_ast_spec {t0 : Nat} {st : List pm_V} {u : pm_S} {kg : List pm_V → pm_S → Prop} (h : pm_ast t0 st u kg False) : ∃ v i k st' len, st = v :: .inl i :: .inr (.inr (.inl (some k))) :: st' ∧ pm_arr u.1 k = some (t0, len) ∧ pm_ib i len = true ∧ pm_put t0 k i.toNatClampNeg v u (fun u => kg st' u) False := by
  rcases st with _ | ⟨v, _ | ⟨i | i, _ | ⟨x | b | (_ | k) | z, st⟩⟩⟩ <;> first | exact h.elim | skip
  change (match pm_arr u.1 k with | some (t, len) => _ | none => False) at h
  cases ha : pm_arr u.1 k with
  | none => rw [ha] at h; exact h.elim
  | some tl =>
    obtain ⟨t, len⟩ := tl
    rw [ha] at h
    dsimp only at h
    cases hb : (Nat.beq t t0 && pm_ib i len) with
    | false => rw [hb] at h; exact h.elim
    | true =>
      rw [hb] at h
      simp only [Bool.and_eq_true] at hb
      have ht := pm_beq hb.1
      subst ht
      exact ⟨v, i, k, st, len, rfl, ha, hb.2, h⟩
theorem pm_asta_spec {st : List pm_V} {u : pm_S} {kg : List pm_V → pm_S → Prop} (h : pm_asta st u kg False) : ∃ q i k st' t len ci, st = .inr (.inr (.inl (some q))) :: .inl i :: .inr (.inr (.inl (some k))) :: st' ∧ pm_arr u.1 k = some (t, len) ∧ pm_cls u.1 q = some ci ∧ ((t = 2 ∧ ci = 1) ∨ (t = 3 ∧ ci = 2)) ∧ pm_ib i len = true ∧ kg st' (u.1, u.2.1, u.2.2.1, pm_up u.2.2.2 k i.toNatClampNeg (some q)) := by
  rcases st with _ | ⟨y | d | (_ | q) | w, _ | ⟨i | i, _ | ⟨x | b | (_ | k) | z, st⟩⟩⟩ <;> first | exact h.elim | skip
  change (match pm_arr u.1 k, pm_cls u.1 q with | some (t, len), some ci => _ | _, _ => False) at h
  cases ha : pm_arr u.1 k with
  | none => rw [ha] at h; exact h.elim
  | some tl =>
    obtain ⟨t, len⟩ := tl
    rw [ha] at h
    cases hc : pm_cls u.1 q with
    | none => rw [hc] at h; exact h.elim
    | some ci =>
      rw [hc] at h
      dsimp only at h
      cases hb : (((Nat.beq t 2 && Nat.beq ci 1) || (Nat.beq t 3 && Nat.beq ci 2)) && pm_ib i len) with
      | false => rw [hb] at h; exact h.elim
      | true =>
        rw [hb] at h
        simp only [Bool.and_eq_true, Bool.or_eq_true] at hb
        refine ⟨q, i, k, st, t, len, ci, rfl, ha, hc, ?_, hb.2, h⟩
        rcases hb.1 with h1 | h1
        · exact Or.inl ⟨pm_beq h1.1, pm_beq h1.2⟩
        · exact Or.inr ⟨pm_beq h1.1, pm_beq h1.2⟩
section PMA
variable {p : Program} {l : Launch} {e : Env} {R : Room} {s : State} {m : MethodId} {args : Array Value} {below : List Frame} {meth : Method} {c : Code} {Q : State → Prop}
variable {G : pm_G} {sc : pm_Sc} {M : pm_Mt} {d n0 nf : Nat} {MT : List pm_Mt} {pc : Nat} {ax : List Nat} {lv : pm_Lv} {st : List pm_V} {u : pm_S}
variable {H : Heap} {locs : List Loc} {cells slots : Nat} {ls : Array Slot} {rest : List Value}
theorem pm_w_cell {k : Nat} {dd : pm_Kd} (hk : k < u.1) (hkd : pm_kd k = some dd) : (pm_ws G u)[k]? = some (G.2.2.1 + k, pm_cell G dd (u.2.1 k) (u.2.2.1 k) (u.2.2.2 k)) := by
  have ha := pm_ws_get (G := G) hk
  rw [pm_kx_of hkd] at ha
  exact ha
theorem pm_s_iaload (E : pm_E G sc M d p R s m args meth c) (hd : decode M.2.1 pc = .ok (.iaload, 1)) (h : pm_ald sc 0 st u (fun v st => pm_kk p l e R s m args below meth c Q G M.2.2.1 n0 nf (pc + 1) lv (v :: st) u) False) : pm_PW p l e R s m args below meth c Q G M.2.2.1 n0 pc lv st u := by
  obtain ⟨hx, hb, -, hown, hga, hK, hX, -⟩ := E
  obtain ⟨i, h | h⟩ := pm_ald_spec h
  · obtain ⟨k, st', t, len, rfl, ha, ht, hi, hk⟩ := h
    have ht0 : t = 0 := by rcases ht with h | h; exact h; exact absurd h.1 (by decide)
    subst ht0
    obtain ⟨hkn, hkd⟩ := pm_arr_spec ha
    exact fun H locs ls hl hH hS hn => va_iald hx hb hK.1 hH.2 k 0 (pm_w_cell hkn hkd) rfl (pm_ib_in hi) hd (hk.2 H locs ls hl hH hS hn)
  · obtain ⟨q, st', rfl, -, hi, hk⟩ := h
    exact fun H locs ls hl hH hS hn => va_sld (A := pm_A G) hx hb hX.1 (Array.getElem?_eq_some_iff.mp hX.1.choose_spec.1).1 (fun q => by have q' : G.2.2.1 ≤ G.2.2.2 := q; have := hX.2; omega) hS (pm_ib_in hi) hd (hk.2 H locs ls hl hH hS hn)
theorem pm_s_baload (E : pm_E G sc M d p R s m args meth c) (hd : decode M.2.1 pc = .ok (.baload, 1)) (h : pm_ald sc 1 st u (fun v st => pm_kk p l e R s m args below meth c Q G M.2.2.1 n0 nf (pc + 1) lv (v :: st) u) False) : pm_PW p l e R s m args below meth c Q G M.2.2.1 n0 pc lv st u := by
  obtain ⟨hx, hb, -, hown, hga, hK, hX, -⟩ := E
  obtain ⟨i, h | h⟩ := pm_ald_spec h
  · obtain ⟨k, st', t, len, rfl, ha, ht, hi, hk⟩ := h
    have ht0 : t = 1 := by rcases ht with h | h; exact h; exact absurd h.1 (by decide)
    subst ht0
    obtain ⟨hkn, hkd⟩ := pm_arr_spec ha
    exact fun H locs ls hl hH hS hn => va_zald hx hb hK.1 hH.2 k 1 (pm_w_cell hkn hkd) rfl (pm_ib_in hi) hd (hk.2 H locs ls hl hH hS hn)
  · obtain ⟨q, st', rfl, h0, -⟩ := h
    exact absurd h0 (by decide)
theorem pm_s_aaload (E : pm_E G sc M d p R s m args meth c) (hd : decode M.2.1 pc = .ok (.aaload, 1)) (h : pm_ald sc 2 st u (fun v st => pm_kk p l e R s m args below meth c Q G M.2.2.1 n0 nf (pc + 1) lv (v :: st) u) False) : pm_PW p l e R s m args below meth c Q G M.2.2.1 n0 pc lv st u := by
  obtain ⟨hx, hb, -, hown, hga, hK, hX, -⟩ := E
  obtain ⟨i, h | h⟩ := pm_ald_spec h
  · obtain ⟨k, st', t, len, rfl, ha, ht, hi, hk⟩ := h
    obtain ⟨hkn, hkd⟩ := pm_arr_spec ha
    rcases ht with rfl | ⟨-, rfl⟩
    · exact fun H locs ls hl hH hS hn => va_aldq hx hb hK.1 hH.2 k 2 (pm_w_cell hkn hkd) rfl (pm_ib_in hi) hd (hk.2 H locs ls hl hH hS hn)
    · exact fun H locs ls hl hH hS hn => va_aldq hx hb hK.1 hH.2 k 3 (pm_w_cell hkn hkd) rfl (pm_ib_in hi) hd (hk.2 H locs ls hl hH hS hn)
  · obtain ⟨q, st', rfl, h0, -⟩ := h
    exact absurd h0 (by decide)
theorem pm_s_iastore (E : pm_E G sc M d p R s m args meth c) (hd : decode M.2.1 pc = .ok (.iastore, 1)) (h : pm_ast 0 st u (fun st u => pm_kk p l e R s m args below meth c Q G M.2.2.1 n0 nf (pc + 1) lv st u) False) : pm_PW p l e R s m args below meth c Q G M.2.2.1 n0 pc lv st u := by
  obtain ⟨hx, hb, -, hown, hga, hK, hX, -⟩ := E
  obtain ⟨v, i, k, st', len, rfl, ha, hi, hp⟩ := pm_ast_spec h
  obtain ⟨hkn, hkd⟩ := pm_arr_spec ha
  obtain ⟨u', w, k1, k2, k3, k4, k5, k6, k7, -, k9⟩ := pm_put_spec hp G.2.2.1 G.2.2.2
  intro H locs ls hl hH hS hn
  rcases k9 with ⟨-, x, hw, -⟩ | ⟨h0, -⟩ | ⟨h0, -⟩
  · rw [List.map_cons, k2, hw]
    refine W.iast hx hb (hH.2 k _ (pm_w_cell hkn hkd)) ((hK.1.2 0 _ rfl).1 len (fun j => .int (u.2.1 k j))) (fun q => by cases q) (by show ¬ (i < 0 ∨ (arrV _ _ _).slots.size ≤ _); rw [arrV_size]; exact pm_ib_in hi) rfl rfl hd fun H1 e z oq => ?_
    have h2 := k1.2 H1 _ ls hl (pm_arrset hH hkn hkd e z oq k3 (k4.trans hw) k5 k6 k7) (hS.put (k := i.toNatClampNeg) z oq (pm_ws_D.2 k _ (pm_w_cell hkn hkd))) (by rw [k3]; exact hn)
    rw [k3] at h2
    exact h2
  · exact absurd h0 (by decide)
  · exact absurd h0 (by decide)
theorem pm_s_bastore (E : pm_E G sc M d p R s m args meth c) (hd : decode M.2.1 pc = .ok (.bastore, 1)) (h : pm_ast 1 st u (fun st u => pm_kk p l e R s m args below meth c Q G M.2.2.1 n0 nf (pc + 1) lv st u) False) : pm_PW p l e R s m args below meth c Q G M.2.2.1 n0 pc lv st u := by
  obtain ⟨hx, hb, -, hown, hga, hK, hX, -⟩ := E
  obtain ⟨v, i, k, st', len, rfl, ha, hi, hp⟩ := pm_ast_spec h
  obtain ⟨hkn, hkd⟩ := pm_arr_spec ha
  obtain ⟨u', w, k1, k2, k3, k4, k5, k6, k7, -, k9⟩ := pm_put_spec hp G.2.2.1 G.2.2.2
  intro H locs ls hl hH hS hn
  rcases k9 with ⟨h0, -⟩ | ⟨-, x, hw, -⟩ | ⟨h0, -⟩
  · exact absurd h0 (by decide)
  · rw [List.map_cons, k2, hw]
    refine W.zast hx hb (hH.2 k _ (pm_w_cell hkn hkd)) ((hK.1.2 1 _ rfl).1 len (fun j => .int (bif u.2.2.1 k j then 1 else 0))) (fun q => by cases q) (by show ¬ (i < 0 ∨ (arrV _ _ _).slots.size ≤ _); rw [arrV_size]; exact pm_ib_in hi) rfl rfl hd fun H1 e z oq => ?_
    have e2 : narrow .boolean (.int (bif x then 1 else 0)) = w := by rw [hw]; cases x <;> decide
    rw [e2] at e
    have h2 := k1.2 H1 _ ls hl (pm_arrset hH hkn hkd e z oq k3 k4 k5 k6 k7) (hS.put (k := i.toNatClampNeg) z oq (pm_ws_D.2 k _ (pm_w_cell hkn hkd))) (by rw [k3]; exact hn)
    rw [k3] at h2
    exact h2
  · exact absurd h0 (by decide)
theorem pm_s_aastore (E : pm_E G sc M d p R s m args meth c) (hd : decode M.2.1 pc = .ok (.aastore, 1)) (h : pm_asta st u (fun st u => pm_kk p l e R s m args below meth c Q G M.2.2.1 n0 nf (pc + 1) lv st u) False) : pm_PW p l e R s m args below meth c Q G M.2.2.1 n0 pc lv st u := by
  obtain ⟨hx, hb, -, hown, hga, hK, hX, -⟩ := E
  obtain ⟨q, i, k, st', t, len, ci, rfl, ha, hc, ht, hi, hp⟩ := pm_asta_spec h
  obtain ⟨hkn, hkd⟩ := pm_arr_spec ha
  obtain ⟨hqn, hqd⟩ := pm_cls_spec hc
  intro H locs ls hl hH hS hn
  have hin := pm_ib_in hi
  have hlt : i.toNatClampNeg < len := Nat.not_le.mp fun q => hin (Or.inr q)
  have h0 : ¬ i < 0 := fun q => hin (Or.inl q)
  have hup : ∀ a b, ¬ (a = k ∧ b = i.toNatClampNeg) → pm_up u.2.2.2 k i.toNatClampNeg (some q) a b = u.2.2.2 a b := fun a b hn => by rw [pm_up_eq, if_neg hn]
  have key : ∀ (C : String) (r : vw_C), pm_cl[ci]? = some r → r.1 = C → (pm_tys G.2.1)[t]? = some (G.2.1 t, .object C) → 2 ≤ t → W p l e R s m args below meth c H locs (u.1 - n0) (pm_sl u.1 - pm_sl n0) Q (F0 m pc ls (.ref (G.2.2.1 + q) :: .int i :: .ref (G.2.2.1 + k) :: st'.map (pm_vl G.2.2.1 G.2.2.2))) := by
    intro C r hr hC hty h2t
    obtain ⟨r', hr', cellV, g1, g2, g3, -⟩ := hH.2 q _ (pm_w_cell hqn hqd)
    have hcls := (hK.1.1 ci r hr).2
    rw [hC] at hcls
    obtain ⟨kA, comp, k1, k2, k3, -⟩ := (hK.1.2 t _ hty).2
    have hcomp : comp = G.1.1 ci := Option.some.inj (k3.symm.trans hcls.1)
    subst hcomp
    obtain ⟨kC, hkC, -⟩ := hcls.2
    refine W.aast hx hb (hH.2 k _ (pm_w_cell hkn hkd)) (fun q h => ?_) (fun h => ?_) ?_ k2 rfl hkC ⟨h0, ?_⟩ g1 (fun q h => by rw [g3] at h; cases h) (by rw [g2]; exact hkC) (by rw [g2]; exact va_assign hcls) rfl rfl hd fun H1 e z oq => ?_
    · rw [pm_ac_cell] at h; cases h
    · rw [pm_ac_cell] at h; cases h
    · rw [pm_ac_cell]; exact k1
    · rw [pm_ac_cell, arrV_size]; exact hlt
    · have h2 := hp.2 H1 _ ls hl (pm_arrset (u' := (u.1, u.2.1, u.2.2.1, pm_up u.2.2.2 k i.toNatClampNeg (some q))) hH hkn hkd e z oq rfl (by
        rcases t with _ | _ | t
        · omega
        · omega
        · show va_rf (pm_rz G.2.2.1 (pm_up u.2.2.2 k i.toNatClampNeg (some q) k i.toNatClampNeg)) = _
          rw [pm_up_at, if_pos rfl]; rfl) (fun _ _ _ => rfl) (fun _ _ _ => rfl) hup) (hS.put (k := i.toNatClampNeg) z oq (pm_ws_D.2 k _ (pm_w_cell hkn hkd))) hn
      exact h2
  rcases ht with ⟨rfl, rfl⟩ | ⟨rfl, rfl⟩
  · exact key "PlatformDoors$Frame" _ rfl rfl rfl (by decide)
  · exact key "PlatformDoors$Leaf" _ rfl rfl rfl (by decide)
theorem pm_s_alen (E : pm_E G sc M d p R s m args meth c) (hd : decode M.2.1 pc = .ok (.arraylength, 1)) {q : Unit} (h : pm_kk p l e R s m args below meth c Q G M.2.2.1 n0 nf (pc + 1) lv (.inl (Int32.ofNat sc.1) :: st) u) : pm_PW p l e R s m args below meth c Q G M.2.2.1 n0 pc lv (.inr (.inr (.inr q)) :: st) u := by
  obtain ⟨hx, hb, -, hown, hga, hK, hX, -⟩ := E
  exact fun H locs ls hl hH hS hn => va_slen (A := pm_A G) hx hb hX.1 (Array.getElem?_eq_some_iff.mp hX.1.choose_spec.1).1 (fun q => by have q' : G.2.2.1 ≤ G.2.2.2 := q; have := hX.2; omega) hS hd (h.2 H locs ls hl hH hS hn)
/-- the memory with one place more -/
theorem pm_grow {H1 : Heap} (hH : pm_H G u H) (z1 : H1.size = H.size + 1) (o1 : ∀ q, q < H.size → H1[q]? = H[q]?) (hat : va_at G.1 pm_cl (G.2.2.1 + u.1, pm_cell G (pm_kx u.1) (fun _ => 0) (fun _ => false) (fun _ => none)) H1) : pm_H G (pm_made u) H1 := by
  refine ⟨by rw [z1, hH.1]; rfl, ?_⟩
  have hk : ∀ (k : Nat) (x : Nat × va_E), (pm_ws G u)[k]? = some x → H1[x.1]? = H[x.1]? := fun k x hx => o1 x.1 ((hH.2 k x hx).lt)
  have hP := (hH.2.kept hk).app (w2 := [(G.2.2.1 + u.1, pm_cell G (pm_kx u.1) (fun _ => 0) (fun _ => false) (fun _ => none))]) (fun k x hx => by
    have hz : k < 1 := (List.getElem?_eq_some_iff.mp hx).1
    rw [show k = 0 by omega] at hx
    cases hx
    exact hat)
  rw [pm_ws_push (u' := pm_made u) rfl (by show pm_cell G (pm_kx u.1) (pm_fz u.2.1 u.1 0 u.1) (pm_fz u.2.2.1 u.1 false u.1) (pm_fz u.2.2.2 u.1 none u.1) = _; rw [pm_fz_at, pm_fz_at, pm_fz_at]) (fun a ha => pm_fz_ne ha) (fun a ha => pm_fz_ne ha) (fun a ha => pm_fz_ne ha)] at hP
  exact hP
theorem pm_grow_S {H1 : Heap} (hS : va_S (pm_A G) s.heap H locs) (z1 : H1.size = H.size + 1) (o1 : ∀ q, q < H.size → H1[q]? = H[q]?) : va_S (pm_A G) s.heap H1 locs := ⟨Nat.le_trans hS.1 (by omega), fun x h1 h2 => (o1 x (Nat.lt_of_lt_of_le h1 hS.1)).trans (hS.2.1 x h1 h2), hS.2.2⟩
theorem pm_new_spec {dd : pm_Kd} {kg : List pm_V → pm_S → Prop} (h : pm_new dd st u kg False) : pm_kd u.1 = some dd ∧ kg (.inr (.inr (.inl (some u.1))) :: st) (pm_made u) := by
  unfold pm_new at h
  cases hk : pm_kd u.1 with
  | none => rw [hk] at h; exact h.elim
  | some d0 =>
    rw [hk] at h
    rcases d0 with a | ⟨a, x⟩ <;> rcases dd with b | ⟨b, y⟩
    · dsimp only at h
      cases hb : Nat.beq a b with
      | false => rw [hb] at h; exact h.elim
      | true => rw [hb] at h; have := pm_beq hb; subst this; exact ⟨rfl, h⟩
    · exact h.elim
    · exact h.elim
    · dsimp only at h
      cases hb : (Nat.beq a b && Nat.beq x y) with
      | false => rw [hb] at h; exact h.elim
      | true =>
        rw [hb] at h
        simp only [Bool.and_eq_true] at hb
        have h1 := pm_beq hb.1
        have h2 := pm_beq hb.2
        subst h1; subst h2
        exact ⟨rfl, h⟩
/-- room for one more -/
theorem pm_room1 {sz : Nat} (hR : nf - n0 ≤ R.cells ∧ pm_sl nf - pm_sl n0 ≤ R.slots) (hn : n0 ≤ u.1) (hnf : u.1 + 1 ≤ nf) (hsz : pm_sz u.1 = sz) : (u.1 - n0) + 1 ≤ R.cells ∧ (pm_sl u.1 - pm_sl n0) + sz ≤ R.slots ∧ (u.1 - n0) + 1 = u.1 + 1 - n0 ∧ (pm_sl u.1 - pm_sl n0) + sz = pm_sl (u.1 + 1) - pm_sl n0 := by
  have h1 : pm_sl (u.1 + 1) = pm_sl u.1 + sz := by rw [← hsz]; rfl
  have h2 := pm_sl_le hn
  have h3 := pm_sl_le hnf
  omega
theorem pm_s_new {i : Nat} {cal : Nat → List pm_V → pm_S → Option pm_Rs} {rk : Nat} {kr : pm_Rs → Prop} (E : pm_E G sc M d p R s m args meth c) (hR : nf - n0 ≤ R.cells ∧ pm_sl nf - pm_sl n0 ≤ R.slots) (hd : decode M.2.1 pc = .ok (.new i, 3)) (ho : pm_oki MT M pc (.new i) ax = true)
    (h : pm_do cal sc rk (.new i) (pc + 3) ax lv st u (pm_kk p l e R s m args below meth c Q G M.2.2.1 n0 nf) kr False) : pm_PW p l e R s m args below meth c Q G M.2.2.1 n0 pc lv st u := by
  obtain ⟨hx, hb, -, hown, hga, hK, hX, -⟩ := E
  rcases ax with _ | ⟨ci, ax⟩
  · exact h.elim
  · obtain ⟨hkd, hk⟩ := pm_new_spec h
    simp only [pm_oki, Bool.and_eq_true] at ho
    obtain ⟨⟨⟨hci, hcl⟩, hinst⟩, hini⟩ := ho
    have hci' : ci < 7 := pm_blt hci
    intro H locs ls hl hH hS hn
    have hcl7 : ci < pm_fd.length := hci'
    have hfd : pm_fd[ci]? = some pm_fd[ci] := List.getElem?_eq_getElem hcl7
    have hnm : (pm_fd[ci]).1 = pm_cn ci := by
      have h1 := List.all_eq_true.mp pm_fd_cn ci (List.mem_range.mpr hci')
      have h2 := of_decide_eq_true h1
      rw [List.getD_eq_getElem?_getD, hfd] at h2
      exact h2
    have h0 : pm_fs0 ci = (pm_fd[ci]).2 := by unfold pm_fs0; rw [List.getD_eq_getElem?_getD, hfd]; rfl
    have hc : pm_cl[ci]? = some ((pm_fd[ci]).1, pm_T (pm_fd[ci]).2, (pm_fd[ci]).2.length) := by unfold pm_cl; rw [List.getElem?_map, hfd]; rfl
    have hm : pm_fd[ci] ∈ pm_fd := List.getElem_mem hcl7
    have hw : ∀ w ∈ u_ws (pm_fd[ci]).1 (pm_T (pm_fd[ci]).2) (pm_fd[ci]).2.length, w ∈ pm_ga := fun w hw => pm_in (List.all_eq_true.mp (List.all_eq_true.mp pm_fdw _ hm) w hw)
    have hpt : ∀ k, k < (pm_fd[ci]).2.length → parseFieldDescriptor (pm_T (pm_fd[ci]).2 k).2.2.1 = some (pm_ft ((pm_fd[ci]).2.getD k ("", "", "", false, 0))) := fun k hk => of_decide_eq_true (List.all_eq_true.mp (List.all_eq_true.mp pm_fdt _ hm) k (List.mem_range.mpr hk))
    have hKn := hK.1.1 ci _ hc
    have hsz : pm_sz u.1 = (pm_fs0 ci).length := by unfold pm_sz; rw [pm_kx_of hkd]
    obtain ⟨r1, r2, r3, r4⟩ := pm_room1 hR hn hk.1 hsz
    refine W.newcK hx hb hown (hga _ (pm_in hcl)) (hga _ (pm_in hinst)) (hga _ (pm_in hini)) rfl hd r1 r2 (by rw [← hnm]; exact hKn.2.1) rfl fun H1 kC hkC e1 z1 o1 => ?_
    have hgrow : pm_H G (pm_made u) H1 := by
      refine pm_grow hH z1 o1 ?_
      rw [pm_kx_of hkd]
      refine ⟨_, hc, ?_⟩
      have hborn := u_born (o := H.size) _ hga hw hKn hkC e1 hpt
      rw [hH.1] at hborn
      refine hborn.to (fun k hk => ?_)
      have hq : (pm_fd[ci]).2[k]? = some (pm_fd[ci]).2[k] := List.getElem?_eq_getElem hk
      obtain ⟨-, -, -, -, htl, -, -, -, hgd, hty⟩ := pm_slot (C := (pm_fd[ci]).1) (fs := (pm_fd[ci]).2) hfd hq
      show _ = vp_V (pm_fs (pm_tl (pm_fs0 ci)) G.2.2.1 (fun _ => 0) (fun _ => false) (fun _ => none)) k
      rw [hgd, h0]
      unfold vp_V
      rw [List.getD_eq_getElem?_getD, pm_fs_get (by unfold pm_tl; rw [List.length_map]; exact hk), htl]
      rcases hty with ⟨t1, t2⟩ | ⟨t1, t2⟩ | ⟨t1, t2⟩
      · rw [t1, t2]; rfl
      · rw [t1, t2]; rfl
      · rw [t1]
        revert t2
        cases pm_ft (pm_fd[ci]).2[k] <;> intro t2 <;> first | rfl | cases t2
    have h2 := hk.2 H1 locs ls hl hgrow (pm_grow_S hS z1 o1) (Nat.le_succ_of_le hn)
    rw [r3, r4, hH.1]
    exact h2
theorem pm_s_newarray {a : Jvm.ClassFile.ArrayType} {cal : Nat → List pm_V → pm_S → Option pm_Rs} {rk : Nat} {kr : pm_Rs → Prop} (E : pm_E G sc M d p R s m args meth c) (hR : nf - n0 ≤ R.cells ∧ pm_sl nf - pm_sl n0 ≤ R.slots) (hd : decode M.2.1 pc = .ok (.newarray a, 2)) (ho : pm_oki MT M pc (.newarray a) ax = true)
    (h : pm_do cal sc rk (.newarray a) (pc + 2) ax lv st u (pm_kk p l e R s m args below meth c Q G M.2.2.1 n0 nf) kr False) : pm_PW p l e R s m args below meth c Q G M.2.2.1 n0 pc lv st u := by
  obtain ⟨hx, hb, -, hown, hga, hK, hX, -⟩ := E
  rcases ax with _ | ⟨t, _ | ⟨t2, ax⟩⟩
  · exact h.elim
  · rcases st with _ | ⟨i | v, st⟩
    · exact h.elim
    · change (bif !(decide (i < 0)) then _ else False) at h
      by_cases hneg : i < 0
      · rw [decide_eq_true hneg] at h
        exact h.elim
      · rw [decide_eq_false hneg] at h
        obtain ⟨hkd, hk⟩ := pm_new_spec h
        intro H locs ls hl hH hS hn
        have hsz : pm_sz u.1 = i.toNatClampNeg := by unfold pm_sz; rw [pm_kx_of hkd]
        obtain ⟨r1, r2, r3, r4⟩ := pm_room1 hR hn hk.1 hsz
        have hlen : i.toNatClampNeg ≤ 144 := by
          have key : (pm_kds.all (fun c => c.all (fun q => match q with | .inl _ => true | .inr a => Nat.ble a.2 144))) = true := by decide
          have hmem : (Sum.inr (t, i.toNatClampNeg) : pm_Kd) ∈ pm_kds.getD (u.1 / 8) [] := List.mem_of_getElem? hkd
          have hmem2 : pm_kds.getD (u.1 / 8) [] ∈ pm_kds := by
            rw [List.getD_eq_getElem?_getD] at hmem ⊢
            cases hq : pm_kds[u.1 / 8]? with
            | none => rw [hq] at hmem; cases hmem
            | some ch => exact List.mem_of_getElem? hq
          exact Nat.le_of_ble_eq_true (List.all_eq_true.mp (List.all_eq_true.mp key _ hmem2) _ hmem)
        simp only [pm_oki, Bool.or_eq_true, Bool.and_eq_true, decide_eq_true_eq] at ho
        rcases ho with ⟨⟨ha, ht⟩, hac⟩ | ⟨⟨ha, ht⟩, hac⟩
        · subst ha
          have ht0 := pm_beq ht
          subst ht0
          refine va_newaK hx hb (atype := .int) (hga _ (pm_in hac)) rfl hd rfl hneg rfl (by show _ * 4 ≤ _; omega) r1 r2 hH.1 fun H1 cA e1 z1 o1 hAr hNm => ?_
          have hcA : cA = G.2.1 0 := Option.some.inj (hNm.symm.trans (hK.1.2 0 _ rfl).2)
          subst hcA
          have hgrow : pm_H G (pm_made u) H1 := by
            refine pm_grow hH (by rw [z1, hH.1]) (fun q hq => o1 q (by rw [hH.1] at hq; exact hq)) ?_
            rw [pm_kx_of hkd]
            exact e1
          have h2 := hk.2 H1 locs ls hl hgrow (pm_grow_S hS (by rw [z1, hH.1]) (fun q hq => o1 q (by rw [hH.1] at hq; exact hq))) (Nat.le_succ_of_le hn)
          rw [r3, r4]
          exact h2
        · subst ha
          have ht0 := pm_beq ht
          subst ht0
          refine va_newaK hx hb (atype := .boolean) (hga _ (pm_in hac)) rfl hd rfl hneg rfl (by show _ * 1 ≤ _; omega) r1 r2 hH.1 fun H1 cA e1 z1 o1 hAr hNm => ?_
          have hcA : cA = G.2.1 1 := Option.some.inj (hNm.symm.trans (hK.1.2 1 _ rfl).2)
          subst hcA
          have hgrow : pm_H G (pm_made u) H1 := by
            refine pm_grow hH (by rw [z1, hH.1]) (fun q hq => o1 q (by rw [hH.1] at hq; exact hq)) ?_
            rw [pm_kx_of hkd]
            exact e1
          have h2 := hk.2 H1 locs ls hl hgrow (pm_grow_S hS (by rw [z1, hH.1]) (fun q hq => o1 q (by rw [hH.1] at hq; exact hq))) (Nat.le_succ_of_le hn)
          rw [r3, r4]
          exact h2
    · exact h.elim
  · rcases st with _ | ⟨i | v, st⟩ <;> exact h.elim
theorem pm_s_anewarray {i0 : Nat} {cal : Nat → List pm_V → pm_S → Option pm_Rs} {rk : Nat} {kr : pm_Rs → Prop} (E : pm_E G sc M d p R s m args meth c) (hR : nf - n0 ≤ R.cells ∧ pm_sl nf - pm_sl n0 ≤ R.slots) (hd : decode M.2.1 pc = .ok (.anewarray i0, 3)) (ho : pm_oki MT M pc (.anewarray i0) ax = true)
    (h : pm_do cal sc rk (.anewarray i0) (pc + 3) ax lv st u (pm_kk p l e R s m args below meth c Q G M.2.2.1 n0 nf) kr False) : pm_PW p l e R s m args below meth c Q G M.2.2.1 n0 pc lv st u := by
  obtain ⟨hx, hb, -, hown, hga, hK, hX, -⟩ := E
  rcases ax with _ | ⟨t, _ | ⟨t2, ax⟩⟩
  · exact h.elim
  · rcases st with _ | ⟨i | v, st⟩
    · exact h.elim
    · change (bif !(decide (i < 0)) then _ else False) at h
      by_cases hneg : i < 0
      · rw [decide_eq_true hneg] at h
        exact h.elim
      · rw [decide_eq_false hneg] at h
        obtain ⟨hkd, hk⟩ := pm_new_spec h
        intro H locs ls hl hH hS hn
        have hsz : pm_sz u.1 = i.toNatClampNeg := by unfold pm_sz; rw [pm_kx_of hkd]
        obtain ⟨r1, r2, r3, r4⟩ := pm_room1 hR hn hk.1 hsz
        have hlen : i.toNatClampNeg ≤ 144 := by
          have key : (pm_kds.all (fun c => c.all (fun q => match q with | .inl _ => true | .inr a => Nat.ble a.2 144))) = true := by decide
          have hmem : (Sum.inr (t, i.toNatClampNeg) : pm_Kd) ∈ pm_kds.getD (u.1 / 8) [] := List.mem_of_getElem? hkd
          have hmem2 : pm_kds.getD (u.1 / 8) [] ∈ pm_kds := by
            rw [List.getD_eq_getElem?_getD] at hmem ⊢
            cases hq : pm_kds[u.1 / 8]? with
            | none => rw [hq] at hmem; cases hmem
            | some ch => exact List.mem_of_getElem? hq
          exact Nat.le_of_ble_eq_true (List.all_eq_true.mp (List.all_eq_true.mp key _ hmem2) _ hmem)
        have fin : ∀ (C : String), va_AO C s → Cond.classLink M.1.cls i0 C ∈ pm_ga → (pm_tys G.2.1)[t]? = some (G.2.1 t, .object C) → 2 ≤ t → W p l e R s m args below meth c H locs (u.1 - n0) (pm_sl u.1 - pm_sl n0) Q (F0 m pc ls (.int i :: st.map (pm_vl G.2.2.1 G.2.2.2))) := by
          intro C hao hlk hty h2t
          refine W.anew hx hb hown (hga _ hlk) (va_AO.use hao) rfl hd rfl hneg (by omega) r1 r2 fun cA kA comp f1 f2 f3 f4 => ?_
          obtain ⟨kA', comp', -, -, -, k4⟩ := (hK.1.2 t _ hty).2
          have hcA : cA = G.2.1 t := Option.some.inj (f1.symm.trans k4)
          subst hcA
          generalize hH1 : H.push ({ cls := G.2.1 t, slots := Array.replicate i.toNatClampNeg .null, vm := .none } : Cell) = H1
          have z1 : H1.size = H.size + 1 := by rw [← hH1, Array.size_push]
          have e1 : H1[H.size]? = some (arrV (G.2.1 t) i.toNatClampNeg (fun _ => .null)) := by rw [← hH1, Array.getElem?_push_size, ← arrV_new]
          have o1 : ∀ q : Nat, q < H.size → H1[q]? = H[q]? := fun q hq => by rw [← hH1, Array.getElem?_push, if_neg (Nat.ne_of_lt hq)]
          have hgrow : pm_H G (pm_made u) H1 := by
            refine pm_grow hH z1 o1 ?_
            rw [pm_kx_of hkd]
            show H1[G.2.2.1 + u.1]? = some (vp_cell (G.2.1 t) (i.toNatClampNeg, pm_ac t G.2.2.1 (fun _ => 0) (fun _ => false) (fun _ => none)))
            rw [← hH.1, e1, pm_ac_cell]
            rcases t with _ | _ | t
            · omega
            · omega
            · rfl
          have h2 := hk.2 H1 locs ls hl hgrow (pm_grow_S hS z1 o1) (Nat.le_succ_of_le hn)
          rw [r3, r4, hH.1]
          exact h2
        simp only [pm_oki, Bool.or_eq_true, Bool.and_eq_true] at ho
        rcases ho with ⟨ht, hac⟩ | ⟨ht, hac⟩
        · have ht0 := pm_beq ht
          subst ht0
          exact fin _ hK.2.2.1 (pm_in hac) rfl (by decide)
        · have ht0 := pm_beq ht
          subst ht0
          exact fin _ hK.2.2.2 (pm_in hac) rfl (by decide)
    · exact h.elim
  · rcases st with _ | ⟨i | v, st⟩ <;> exact h.elim
end PMA
end
section
/-! Calls, and the whole: what my small machine does, the model does. -/
theorem pm_pop_spec : ∀ (n : Nat) (acc st as st' : List pm_V), pm_pop n acc st = some (as, st') → ∃ pre, st = pre ++ st' ∧ as = pre.reverse ++ acc ∧ pre.length = n
  | 0, acc, st, as, st', h => by cases h; exact ⟨[], rfl, rfl, rfl⟩
  | n + 1, acc, [], as, st', h => by cases h
  | n + 1, acc, v :: st, as, st', h => by
    obtain ⟨pre, h1, h2, h3⟩ := pm_pop_spec n (v :: acc) st as st' h
    exact ⟨v :: pre, by rw [h1]; rfl, by rw [h2]; simp, by simp [h3]⟩
theorem pm_pop0 {n : Nat} {st as st' : List pm_V} (h : pm_pop n [] st = some (as, st')) : st = as.reverse ++ st' ∧ as.length = n := by
  obtain ⟨pre, h1, h2, h3⟩ := pm_pop_spec n [] st as st' h
  rw [List.append_nil] at h2
  exact ⟨by rw [h2, List.reverse_reverse]; exact h1, by rw [h2, List.length_reverse]; exact h3⟩
theorem pm_catsum (z b : Nat) : ∀ st : List pm_V, ((st.map (pm_vl z b)).map fun v => v.category).sum = st.length
  | [] => rfl
  | v :: st => by
    rw [List.map_cons, List.map_cons, List.sum_cons, pm_cat, pm_catsum z b st, List.length_cons]
    omega
theorem pm_gd_spec {st : List pm_V} {a : Prop} (h : pm_gd st a False) : st.length ≤ 8 ∧ a := by
  unfold pm_gd at h
  cases hb : Nat.ble st.length 8 with
  | false => rw [hb] at h; exact h.elim
  | true => rw [hb] at h; exact ⟨Nat.le_of_ble_eq_true hb, h⟩
theorem pm_call1_spec {kg : Option pm_V → pm_S → Prop} {r : Option pm_Rs} (h : pm_call1 kg False r) : ∃ v u', r = some (v, u') ∧ kg v u' := by
  rcases r with _ | ⟨v, u'⟩
  · exact h.elim
  · exact ⟨v, u', rfl, h⟩
theorem pm_pair_mem {MT : List pm_Mt} {own : String} {i na xn : Nat} : ∀ (ps : List Nat) (ci mi : Nat), pm_pair ps ci = some mi → pm_okp MT own i na xn ps = true → ci < 7 ∧ pm_okc MT mi (na + 1) (fun M => pm_okv own i na (pm_cn xn) (pm_cn ci) M.1) = true
  | [], _, _, h, _ => by cases h
  | [_], _, _, h, _ => by cases h
  | a :: b :: t, ci, mi, h, ho => by
    unfold pm_pair at h
    unfold pm_okp at ho
    simp only [Bool.and_eq_true] at ho
    cases hb : Nat.beq a ci with
    | true =>
      rw [hb] at h
      have e1 := pm_beq hb
      have e2 : b = mi := Option.some.inj h
      subst e1; subst e2
      exact ⟨pm_blt ho.1.1, ho.1.2⟩
    | false =>
      rw [hb] at h
      exact pm_pair_mem t ci mi h ho.2
theorem pm_okc_spec {MT : List pm_Mt} {mi na : Nat} {k : pm_Mt → Bool} (h : pm_okc MT mi na k = true) : ∃ N, MT[mi]? = some N ∧ Cond.code N.1 N.2.1 N.2.2.1 N.2.2.2.1 ∈ pm_ga ∧ Cond.initialized N.1.cls ∈ pm_ga ∧ na ≤ N.2.2.1 ∧ N.2.2.1 ≤ 11 ∧ k N = true := by
  unfold pm_okc at h
  cases hN : MT[mi]? with
  | none => rw [hN] at h; cases h
  | some N =>
    rw [hN] at h
    simp only [Bool.and_eq_true] at h
    exact ⟨N, rfl, pm_in h.1.1.1.1, pm_in h.1.1.1.2, Nat.le_of_ble_eq_true h.1.1.2, Nat.le_of_ble_eq_true h.1.2, h.2⟩
theorem pm_desc_spec {y : MethodName} {na : Nat} (h : pm_desc y na = true) : y.cls ≠ "java/lang/invoke/MethodHandle" ∧ y.cls ≠ "java/lang/invoke/VarHandle" ∧ (parseMethodDescriptor y.desc).map (fun d => d.parameters.length) = some na := by
  simp only [pm_desc, Bool.and_eq_true, decide_eq_true_eq] at h
  exact ⟨h.1.1, h.1.2, h.2⟩
section PMC
variable {p : Program} {l : Launch} {e : Env} {R : Room} {s : State} {m : MethodId} {args : Array Value} {below : List Frame} {meth : Method} {c : Code} {Q : State → Prop}
variable {G : pm_G} {sc : pm_Sc} {M : pm_Mt} {d n0 nf : Nat} {MT : List pm_Mt} {pc : Nat} {ax : List Nat} {lv : pm_Lv} {st : List pm_V} {u u' : pm_S} {v : Option pm_V}
variable {H : Heap} {locs : List Loc} {cells slots mc ms : Nat} {ls : Array Slot} {rest st0 : List Value} {a : Array Value}
theorem pm_w_call {w : Option Value} (hr : va_Run p l e R s m args below meth c H locs cells slots mc ms (F0 m pc ls st0) rest (pm_Q G w u' a) (pm_A G)) (hS : va_S (pm_A G) s.heap H locs)
    (kk : ∀ (H1 : Heap) (locs1 : List Loc), pm_H G u' H1 → va_S (pm_A G) s.heap H1 locs1 → W p l e R s m args below meth c H1 locs1 (cells + mc) (slots + ms) Q (F0 m (pc + 3) ls (w.toList ++ rest))) : W p l e R s m args below meth c H locs cells slots Q (F0 m pc ls st0) := by
  intro T hT X
  obtain ⟨v', st₀, t, T', L, h0, X', hL, e1, e2, ⟨hv, hP, hz, hk⟩, st⟩ := hr T hT X
  cases hv
  rw [h0] at hz hk
  obtain ⟨t2, a1, b1⟩ := kk T'.heap (locs ++ L) (by rw [e1]; exact hP) ⟨Nat.le_trans hS.1 (by rw [e1]; exact hz), fun q h1 h2 => by rw [e1, hk q (Nat.lt_of_lt_of_le h1 hS.1) h2]; exact hS.2.1 q h1 h2, fun q hq => by
    rcases List.mem_append.mp hq with h | h
    · exact hS.2.2 q h
    · exact hL q h⟩ T' rfl X'
  exact ⟨t2, st t2 a1, b1⟩
/-- the start of a callee, from here -/
theorem pm_pre (E : pm_E G sc M d p R s m args meth c) (hH : pm_H G u H) (hS : va_S (pm_A G) s.heap H locs) (av : List pm_V) : PreS s H (pm_Pc G sc av u) (av.map (pm_vl G.2.2.1 G.2.2.2)) := by
  obtain ⟨hx, hb, -, hown, hga, hK, hX, -⟩ := E
  refine ⟨pm_blind G sc av u, fun U hU hW => ⟨rfl, by rw [hU]; exact hH, hK.moved hW, ?_, hX.2⟩⟩
  rw [hU]
  have hbl : G.2.2.2 < s.heap.size := (Array.getElem?_eq_some_iff.mp hX.1.choose_spec.1).1
  exact (hX.1.kept (hS.2.1 G.2.2.2 hbl (fun q => by have q' : G.2.2.1 ≤ G.2.2.2 := q; have := hX.2; omega))).moved hW.alike
theorem pm_room2 {R : Room} {d d' nL mc ms : Nat} (hd : d = d' + 1) (h1 : d + 1 ≤ R.frames) (h2 : 30 * (d + 1) ≤ R.locals) (hn : nL ≤ 11) : (pm_rm d' mc ms).frames + 1 ≤ R.frames ∧ 8 + (nL + 11) + (pm_rm d' mc ms).locals ≤ R.locals := by
  show d' + 1 + 1 ≤ R.frames ∧ 8 + (nL + 11) + 30 * (d' + 1) ≤ R.locals
  omega
theorem pm_code_in {N : pm_Mt} (h : Cond.code N.1 N.2.1 N.2.2.1 N.2.2.2.1 ∈ pm_ga) : ∀ w ∈ (Cond.code N.1 N.2.1 N.2.2.1 N.2.2.2.1 :: pm_ga), w ∈ pm_ga := by
  intro w hw
  rcases List.mem_cons.mp hw with rfl | hw
  · exact h
  · exact hw
theorem pm_w_virt {i na xn k ci d' : Nat} {as : List pm_V} {N : pm_Mt} (E : pm_E G sc M d p R s m args meth c) (hH : pm_H G u H) (hS : va_S (pm_A G) s.heap H locs) (hcls : pm_cls u.1 k = some ci) (hci : ci < 7) (hcd : Cond.code N.1 N.2.1 N.2.2.1 N.2.2.2.1 ∈ pm_ga) (hini : Cond.initialized N.1.cls ∈ pm_ga) (hnL : N.2.2.1 ≤ 11) (hok : pm_okv M.1.cls i na (pm_cn xn) (pm_cn ci) N.1 = true) (hdd : d = d' + 1)
    (hM : pm_M l G sc d' N (.inr (.inr (.inl (some k))) :: as) u v u') (hlen : as.length = na) (hls : ls.size = M.2.2.1) (hst : st.length ≤ 8) (hd : decode M.2.1 pc = .ok (.invokevirtual i, 3)) (hf : cells + (u'.1 - u.1) ≤ R.cells ∧ slots + (pm_sl u'.1 - pm_sl u.1) ≤ R.slots) :
    va_Run p l e R s m args below meth c H locs cells slots (u'.1 - u.1) (pm_sl u'.1 - pm_sl u.1) (F0 m pc ls ((as.map (pm_vl G.2.2.1 G.2.2.2)).reverse ++ .ref (G.2.2.1 + k) :: st.map (pm_vl G.2.2.1 G.2.2.2))) (st.map (pm_vl G.2.2.1 G.2.2.2)) (pm_Q G (v.map (pm_vl G.2.2.1 G.2.2.2)) u' (Value.ref (G.2.2.1 + k) :: as.map (pm_vl G.2.2.1 G.2.2.2)).toArray) (pm_A G) := by
  have hpre := pm_pre E hH hS (.inr (.inr (.inl (some k))) :: as)
  obtain ⟨hx, hb, hml, hown, hga, hK, hX, -, hfr, hlo⟩ := E
  obtain ⟨hkn, hkd⟩ := pm_cls_spec hcls
  have hcl7 : ci < pm_fd.length := hci
  have hfd : pm_fd[ci]? = some pm_fd[ci] := List.getElem?_eq_getElem hcl7
  have hnm : (pm_fd[ci]).1 = pm_cn ci := by
    have h1 := List.all_eq_true.mp pm_fd_cn ci (List.mem_range.mpr hci)
    have h2 := of_decide_eq_true h1
    rw [List.getD_eq_getElem?_getD, hfd] at h2
    exact h2
  have hc : pm_cl[ci]? = some ((pm_fd[ci]).1, pm_T (pm_fd[ci]).2, (pm_fd[ci]).2.length) := by unfold pm_cl; rw [List.getElem?_map, hfd]; rfl
  obtain ⟨cell, r1, r2, r3⟩ := va_recv hK.1 hH.2 hc (pm_w_cell hkn hkd)
  have hP : PreV s H (pm_cn ci) (G.2.2.1 + k) (pm_Pc G sc (.inr (.inr (.inl (some k))) :: as) u) (as.map (pm_vl G.2.2.1 G.2.2.2)) := ⟨hpre.1, ⟨cell, r1, r2, by rw [← hnm]; exact r3⟩, hpre.2⟩
  have hS0 : CallFix p m c M.2.1 M.2.2.1 s args pm_ga M.1.cls := ⟨hx, hb, hml, hown, hga⟩
  have hR := pm_room2 (mc := u'.1 - u.1) (ms := pm_sl u'.1 - pm_sl u.1) hdd hfr hlo hnL
  have hW8 : 2 * (F0 m pc ls ((as.map (pm_vl G.2.2.1 G.2.2.2)).reverse ++ .ref (G.2.2.1 + k) :: st.map (pm_vl G.2.2.1 G.2.2.2))).monitorRoom + ((st.map (pm_vl G.2.2.1 G.2.2.2)).map fun v => v.category).sum ≤ 8 := by
    rw [pm_catsum]
    show 2 * 0 + st.length ≤ 8
    omega
  have hlen' : (as.map (pm_vl G.2.2.1 G.2.2.2)).length = na := by rw [List.length_map]; exact hlen
  simp only [pm_okv, Bool.and_eq_true, Bool.or_eq_true, decide_eq_true_eq] at hok
  obtain ⟨⟨hds, hinst⟩, hok⟩ := hok
  have hds' := pm_desc_spec hds
  rcases hok with ⟨⟨⟨hxc, hyc⟩, hsel⟩, hlk⟩ | ⟨⟨hlk, hsel⟩, hsame⟩
  · rcases hlk with hlk | hlk
    · refine va_runV hS0 hM (cwV na hga (pm_goodIn fun w hw => ?_) rfl rfl rfl ⟨hyc, hds'⟩ hR) hP rfl hlen' hls rfl hW8 hd hf
      rcases List.mem_append.mp hw with hw | hw
      · simp only [List.mem_cons, List.not_mem_nil, or_false] at hw
        rcases hw with rfl | rfl | rfl | rfl
        · exact pm_in hlk
        · exact pm_in hinst
        · exact pm_in hsel
        · rw [← hyc]; exact hini
      · exact pm_code_in hcd w hw
    · exact va_runVN hS0 hM ⟨va_cnB na hga (pm_goodIn (pm_code_in hcd)) rfl rfl rfl (hK.2.1 _ hlk) (hga _ hini) hds' hR, hga _ (pm_in hinst), hga _ (pm_in hsel)⟩ hP rfl hlen' hls rfl hW8 hd hf
  · rcases hsame with hsame | ⟨⟨hsame, hdec⟩, hdx⟩
    · refine va_runU (x := ⟨pm_cn xn, N.1.name, N.1.desc⟩) (owner := N.1.cls) hS0 hM (va_cwU na hga (pm_goodIn fun w hw => ?_) rfl rfl rfl rfl hds' hR) hP rfl hlen' hls rfl hW8 hd hf
      rcases List.mem_append.mp hw with hw | hw
      · simp only [List.mem_cons, List.not_mem_nil, or_false] at hw
        rcases hw with rfl | rfl | rfl | rfl | rfl
        · exact pm_in hlk
        · exact pm_in hsame
        · exact pm_in hsel
        · exact pm_in hinst
        · exact hini
      · exact pm_code_in hcd w hw
    · refine va_runU (x := ⟨pm_cn xn, N.1.name, N.1.desc⟩) (owner := pm_cn xn) hS0 hM (va_cwA na hga (pm_goodIn fun w hw => ?_) rfl rfl rfl (hK.2.1 _ hdec) (pm_desc_spec hdx) hR) hP rfl hlen' hls rfl hW8 hd hf
      rcases List.mem_append.mp hw with hw | hw
      · simp only [List.mem_cons, List.not_mem_nil, or_false] at hw
        rcases hw with rfl | rfl | rfl | rfl | rfl
        · exact pm_in hlk
        · exact pm_in hsame
        · exact pm_in hsel
        · exact pm_in hinst
        · exact hini
      · exact pm_code_in hcd w hw
/-- what is known of calls from here -/
def pm_HC (l : Launch) (G : pm_G) (sc : pm_Sc) (MT : List pm_Mt) (d : Nat) (cal : Nat → List pm_V → pm_S → Option pm_Rs) : Prop := ∀ (mi : Nat) (N : pm_Mt) (av : List pm_V) (u : pm_S) (v : Option pm_V) (u' : pm_S), MT[mi]? = some N → av.length ≤ N.2.2.1 → cal mi av u = some (v, u') → u.1 ≤ u'.1 ∧ ∃ d', d = d' + 1 ∧ pm_M l G sc d' N av u v u'
theorem pm_room3 {a b x y z : Nat} (h1 : x ≤ y) (h2 : y ≤ z) : y - x + (z - y) = z - x := by omega
theorem pm_s_virt {i : Nat} {cal : Nat → List pm_V → pm_S → Option pm_Rs} {rk : Nat} {kr : pm_Rs → Prop} (E : pm_E G sc M d p R s m args meth c) (hR : nf - n0 ≤ R.cells ∧ pm_sl nf - pm_sl n0 ≤ R.slots) (hC : pm_HC l G sc MT d cal) (hd : decode M.2.1 pc = .ok (.invokevirtual i, 3)) (ho : pm_oki MT M pc (.invokevirtual i) ax = true)
    (h : pm_do cal sc rk (.invokevirtual i) (pc + 3) ax lv st u (pm_kk p l e R s m args below meth c Q G M.2.2.1 n0 nf) kr False) : pm_PW p l e R s m args below meth c Q G M.2.2.1 n0 pc lv st u := by
  rcases ax with _ | ⟨na, _ | ⟨xn, ps⟩⟩
  · exact h.elim
  · exact h.elim
  · change (match pm_pop na [] st with | some (as, st) => _ | none => False) at h
    cases hp : pm_pop na [] st with
    | none => rw [hp] at h; exact h.elim
    | some q =>
      obtain ⟨as, st1⟩ := q
      rw [hp] at h
      obtain ⟨k, ci, st2, rfl, hcls, hk⟩ := pm_obj_spec h
      obtain ⟨hst, hlen⟩ := pm_pop0 hp
      cases hpr : pm_pair ps ci with
      | none => rw [hpr] at hk; exact hk.elim
      | some mi =>
        rw [hpr] at hk
        obtain ⟨hs8, hk⟩ := pm_gd_spec hk
        obtain ⟨v, u', hcal, hk⟩ := pm_call1_spec hk
        obtain ⟨hci, hoc⟩ := pm_pair_mem ps ci mi hpr ho
        obtain ⟨N, hN, hcd, hini, hna, hnL, hok⟩ := pm_okc_spec hoc
        obtain ⟨hle, d', hdd, hM⟩ := hC mi N _ u v u' hN (by simp [hlen]; omega) hcal
        intro H locs ls hl hH hS hn
        have hsl1 := pm_sl_le hn
        have hsl2 := pm_sl_le hle
        have hsl3 := pm_sl_le hk.1
        have hk1 := hk.1
        have hrun := pm_w_virt (cells := u.1 - n0) (slots := pm_sl u.1 - pm_sl n0) (ls := ls) (st := st2) (e := e) (below := below) (meth := meth) E hH hS hcls hci hcd hini hnL hok hdd hM hlen hl.1 hs8 hd ⟨by omega, by omega⟩
        have hstk : st.map (pm_vl G.2.2.1 G.2.2.2) = (as.map (pm_vl G.2.2.1 G.2.2.2)).reverse ++ .ref (G.2.2.1 + k) :: st2.map (pm_vl G.2.2.1 G.2.2.2) := by
          rw [hst, List.map_append, List.map_reverse]
          rfl
        rw [hstk]
        refine pm_w_call hrun hS (fun H1 locs1 hH1 hS1 => ?_)
        have h2 := hk.2 H1 locs1 ls hl hH1 hS1 (by omega)
        rw [show u.1 - n0 + (u'.1 - u.1) = u'.1 - n0 by omega, show pm_sl u.1 - pm_sl n0 + (pm_sl u'.1 - pm_sl u.1) = pm_sl u'.1 - pm_sl n0 by omega]
        rw [List.map_append] at h2
        cases v <;> exact h2
theorem pm_s_spec {i : Nat} {cal : Nat → List pm_V → pm_S → Option pm_Rs} {rk : Nat} {kr : pm_Rs → Prop} (E : pm_E G sc M d p R s m args meth c) (hR : nf - n0 ≤ R.cells ∧ pm_sl nf - pm_sl n0 ≤ R.slots) (hC : pm_HC l G sc MT d cal) (hd : decode M.2.1 pc = .ok (.invokespecial i, 3)) (ho : pm_oki MT M pc (.invokespecial i) ax = true)
    (h : pm_do cal sc rk (.invokespecial i) (pc + 3) ax lv st u (pm_kk p l e R s m args below meth c Q G M.2.2.1 n0 nf) kr False) : pm_PW p l e R s m args below meth c Q G M.2.2.1 n0 pc lv st u := by
  rcases ax with _ | ⟨na, _ | ⟨mi, ax⟩⟩
  · rcases st with _ | ⟨x | b | (_ | k) | z, st⟩
    · exact h.elim
    · exact h.elim
    · exact h.elim
    · exact h.elim
    · obtain ⟨hs8, hk⟩ := pm_gd_spec h
      simp only [pm_oki, Bool.and_eq_true] at ho
      obtain ⟨hx, hb, hml, hown, hga, hK, hX, -, hfr, hlo⟩ := E
      intro H locs ls hl hH hS hn
      refine W.objInit hx hb hown (hga _ (pm_in ho.1.1)) (hga _ (pm_in ho.1.2)) (hga _ (pm_in ho.2)) rfl (hl.1.trans hml.symm) (a := G.2.2.1 + k) (rest := st.map (pm_vl G.2.2.1 G.2.2.2)) rfl hd (by omega) ?_ (hk.2 H locs ls hl hH hS hn)
      rw [pm_catsum]
      show 2 * 0 + st.length + 12 ≤ R.locals
      omega
    · exact h.elim
  · exact h.elim
  · change (match pm_pop na [] st with | some (as, .inr (.inr (.inl (some k))) :: st) => _ | _ => False) at h
    cases hp : pm_pop na [] st with
    | none => rw [hp] at h; exact h.elim
    | some q =>
      obtain ⟨as, st1⟩ := q
      rw [hp] at h
      rcases st1 with _ | ⟨x | b | (_ | k) | z, st2⟩
      · exact h.elim
      · exact h.elim
      · exact h.elim
      · exact h.elim
      · obtain ⟨hst, hlen⟩ := pm_pop0 hp
        obtain ⟨hs8, hk⟩ := pm_gd_spec h
        obtain ⟨v, u', hcal, hk⟩ := pm_call1_spec hk
        obtain ⟨N, hN, hcd, hini, hna, hnL, hok⟩ := pm_okc_spec ho
        obtain ⟨hle, d', hdd, hM⟩ := hC mi N _ u v u' hN (by simp [hlen]; omega) hcal
        intro H locs ls hl hH hS hn
        have hsl1 := pm_sl_le hn
        have hsl2 := pm_sl_le hle
        have hsl3 := pm_sl_le hk.1
        have hk1 := hk.1
        have hpre := pm_pre E hH hS (.inr (.inr (.inl (some k))) :: as)
        obtain ⟨hx, hb, hml, hown, hga, hK, hX, -, hfr, hlo⟩ := E
        have hS0 : CallFix p m c M.2.1 M.2.2.1 s args pm_ga M.1.cls := ⟨hx, hb, hml, hown, hga⟩
        have hRR := pm_room2 (mc := u'.1 - u.1) (ms := pm_sl u'.1 - pm_sl u.1) hdd hfr hlo hnL
        have hlen' : (as.map (pm_vl G.2.2.1 G.2.2.2)).length = na := by rw [List.length_map]; exact hlen
        simp only [Bool.and_eq_true, Bool.or_eq_true, decide_eq_true_eq] at hok
        obtain ⟨⟨⟨⟨hds, hnm⟩, hret⟩, hinst⟩, hlk⟩ := hok
        have hds' := pm_desc_spec hds
        have hW8 : 2 * (F0 m pc ls ((as.map (pm_vl G.2.2.1 G.2.2.2)).reverse ++ .ref (G.2.2.1 + k) :: st2.map (pm_vl G.2.2.1 G.2.2.2))).monitorRoom + ((st2.map (pm_vl G.2.2.1 G.2.2.2)).map fun v => v.category).sum ≤ 8 := by
          rw [pm_catsum]
          show 2 * 0 + st2.length ≤ 8
          omega
        have hM' := hM
        unfold pm_M at hM'
        rw [hret] at hM' hcd
        have hcd' : ∀ w ∈ (Cond.code N.1 N.2.1 N.2.2.1 none :: pm_ga), w ∈ pm_ga := by
          intro w hw
          rcases List.mem_cons.mp hw with rfl | hw
          · exact hcd
          · exact hw
        have hrun : va_Run p l e R s m args below meth c H locs (u.1 - n0) (pm_sl u.1 - pm_sl n0) (u'.1 - u.1) (pm_sl u'.1 - pm_sl u.1) (F0 m pc ls ((as.map (pm_vl G.2.2.1 G.2.2.2)).reverse ++ .ref (G.2.2.1 + k) :: st2.map (pm_vl G.2.2.1 G.2.2.2))) (st2.map (pm_vl G.2.2.1 G.2.2.2)) (pm_Q G (v.map (pm_vl G.2.2.1 G.2.2.2)) u' (Value.ref (G.2.2.1 + k) :: as.map (pm_vl G.2.2.1 G.2.2.2)).toArray) (pm_A G) := by
          rcases hlk with hlk | hlk
          · exact va_runI hS0 hM' (cwI na hga (pm_goodIn hcd') rfl rfl rfl (hga _ hini) (hga _ (pm_in hlk)) (hga _ (pm_in hinst)) hnm hds' hRR) hpre rfl hlen' hl.1 rfl hW8 hd ⟨by omega, by omega⟩
          · exact va_runIN hS0 hM' ⟨va_cnB na hga (pm_goodIn hcd') rfl rfl rfl (hK.2.1 _ hlk) (hga _ hini) hds' hRR, hnm, hga _ (pm_in hinst)⟩ hpre rfl hlen' hl.1 rfl hW8 hd ⟨by omega, by omega⟩
        have hstk : st.map (pm_vl G.2.2.1 G.2.2.2) = (as.map (pm_vl G.2.2.1 G.2.2.2)).reverse ++ .ref (G.2.2.1 + k) :: st2.map (pm_vl G.2.2.1 G.2.2.2) := by
          rw [hst, List.map_append, List.map_reverse]
          rfl
        rw [hstk]
        refine pm_w_call hrun hS (fun H1 locs1 hH1 hS1 => ?_)
        have h2 := hk.2 H1 locs1 ls hl hH1 hS1 (by omega)
        rw [show u.1 - n0 + (u'.1 - u.1) = u'.1 - n0 by omega, show pm_sl u.1 - pm_sl n0 + (pm_sl u'.1 - pm_sl u.1) = pm_sl u'.1 - pm_sl n0 by omega]
        rw [List.map_append] at h2
        cases v <;> exact h2
      · exact h.elim
theorem pm_s_static {i : Nat} {cal : Nat → List pm_V → pm_S → Option pm_Rs} {rk : Nat} {kr : pm_Rs → Prop} (E : pm_E G sc M d p R s m args meth c) (hR : nf - n0 ≤ R.cells ∧ pm_sl nf - pm_sl n0 ≤ R.slots) (hC : pm_HC l G sc MT d cal) (hd : decode M.2.1 pc = .ok (.invokestatic i, 3)) (ho : pm_oki MT M pc (.invokestatic i) ax = true)
    (h : pm_do cal sc rk (.invokestatic i) (pc + 3) ax lv st u (pm_kk p l e R s m args below meth c Q G M.2.2.1 n0 nf) kr False) : pm_PW p l e R s m args below meth c Q G M.2.2.1 n0 pc lv st u := by
  rcases ax with _ | ⟨na, _ | ⟨mi, ax⟩⟩
  · exact h.elim
  · obtain ⟨hx, hb, hml, hown, hga, hK, hX, -, hfr, hlo⟩ := E
    rcases na with _ | _ | na
    · obtain ⟨x, y, st', rfl, hk⟩ := pm_op2_spec h
      obtain ⟨hs8, hk⟩ := pm_gd_spec hk
      simp only [pm_oki, Bool.and_eq_true] at ho
      intro H locs ls hl hH hS hn
      have h1 := pm_sl_le hn
      have h2 := hk.1
      have h3 := pm_sl_le h2
      exact va_mmax hx hb (hml.trans hl.1.symm) hown (hga _ (pm_in ho.1.1.1)) (hga _ (pm_in ho.1.1.2)) (hga _ (pm_in ho.1.2)) (hga _ (pm_in ho.2)) (by omega) (by rw [pm_catsum]; omega) (by omega) (by omega) hd (hk.2 H locs ls hl hH hS hn)
    · obtain ⟨x, y, st', rfl, hk⟩ := pm_op2_spec h
      obtain ⟨hs8, hk⟩ := pm_gd_spec hk
      simp only [pm_oki, Bool.and_eq_true] at ho
      intro H locs ls hl hH hS hn
      have h1 := pm_sl_le hn
      have h2 := hk.1
      have h3 := pm_sl_le h2
      exact va_mmin hx hb (hml.trans hl.1.symm) hown (hga _ (pm_in ho.1.1.1)) (hga _ (pm_in ho.1.1.2)) (hga _ (pm_in ho.1.2)) (hga _ (pm_in ho.2)) (by omega) (by rw [pm_catsum]; omega) (by omega) (by omega) hd (hk.2 H locs ls hl hH hS hn)
    · exact h.elim
  · have h' : (match pm_pop na [] st with | some (as, st) => pm_gd st (pm_call1 (fun v u => pm_kk p l e R s m args below meth c Q G M.2.2.1 n0 nf (pc + 3) lv (v.toList ++ st) u) False (cal mi as u)) False | none => False) := by
      rcases na with _ | _ | na <;> exact h
    have ho' : pm_okc MT mi na (fun N => pm_desc N.1 na && pm_has (.static N.1) && ((decide (N.1.cls = M.1.cls) && pm_has (.methodLink M.1.cls i N.1)) || pm_hasN (.methodLinkNest M.1.cls i N.1 pm_host))) = true := by
      rcases na with _ | _ | na <;> exact ho
    cases hp : pm_pop na [] st with
    | none => rw [hp] at h'; exact h'.elim
    | some q =>
      obtain ⟨as, st2⟩ := q
      rw [hp] at h'
      obtain ⟨hst, hlen⟩ := pm_pop0 hp
      obtain ⟨hs8, hk⟩ := pm_gd_spec h'
      obtain ⟨v, u', hcal, hk⟩ := pm_call1_spec hk
      obtain ⟨N, hN, hcd, hini, hna, hnL, hok⟩ := pm_okc_spec ho'
      obtain ⟨hle, d', hdd, hM⟩ := hC mi N _ u v u' hN (by omega) hcal
      intro H locs ls hl hH hS hn
      have hsl1 := pm_sl_le hn
      have hsl2 := pm_sl_le hle
      have hsl3 := pm_sl_le hk.1
      have hk1 := hk.1
      have hpre := pm_pre E hH hS as
      obtain ⟨hx, hb, hml, hown, hga, hK, hX, -, hfr, hlo⟩ := E
      have hS0 : CallFix p m c M.2.1 M.2.2.1 s args pm_ga M.1.cls := ⟨hx, hb, hml, hown, hga⟩
      have hRR := pm_room2 (mc := u'.1 - u.1) (ms := pm_sl u'.1 - pm_sl u.1) hdd hfr hlo hnL
      have hlen' : (as.map (pm_vl G.2.2.1 G.2.2.2)).length = na := by rw [List.length_map]; exact hlen
      simp only [Bool.and_eq_true, Bool.or_eq_true, decide_eq_true_eq] at hok
      obtain ⟨⟨hds, hstat⟩, hlk⟩ := hok
      have hds' := pm_desc_spec hds
      have hW8 : 2 * (F0 m pc ls ((as.map (pm_vl G.2.2.1 G.2.2.2)).reverse ++ st2.map (pm_vl G.2.2.1 G.2.2.2))).monitorRoom + ((st2.map (pm_vl G.2.2.1 G.2.2.2)).map fun v => v.category).sum ≤ 8 := by
        rw [pm_catsum]
        show 2 * 0 + st2.length ≤ 8
        omega
      have hrun : va_Run p l e R s m args below meth c H locs (u.1 - n0) (pm_sl u.1 - pm_sl n0) (u'.1 - u.1) (pm_sl u'.1 - pm_sl u.1) (F0 m pc ls ((as.map (pm_vl G.2.2.1 G.2.2.2)).reverse ++ st2.map (pm_vl G.2.2.1 G.2.2.2))) (st2.map (pm_vl G.2.2.1 G.2.2.2)) (pm_Q G (v.map (pm_vl G.2.2.1 G.2.2.2)) u' (as.map (pm_vl G.2.2.1 G.2.2.2)).toArray) (pm_A G) := by
        rcases hlk with ⟨hcl, hlk⟩ | hlk
        · refine va_runS hS0 hM (cwS na hga (pm_goodIn fun w hw => ?_) rfl rfl rfl ⟨hcl, hds'⟩ hRR) hpre rfl hlen' hl.1 rfl hW8 hd ⟨by omega, by omega⟩
          rcases List.mem_append.mp hw with hw | hw
          · simp only [List.mem_cons, List.not_mem_nil, or_false] at hw
            rcases hw with rfl | rfl | rfl
            · exact pm_in hlk
            · exact pm_in hstat
            · rw [← hcl]; exact hini
          · exact pm_code_in hcd w hw
        · exact va_runSN hS0 hM ⟨va_cnB na hga (pm_goodIn (pm_code_in hcd)) rfl rfl rfl (hK.2.1 _ hlk) (hga _ hini) hds' hRR, hga _ (pm_in hstat), trivial⟩ hpre rfl hlen' hl.1 rfl hW8 hd ⟨by omega, by omega⟩
      have hstk : st.map (pm_vl G.2.2.1 G.2.2.2) = (as.map (pm_vl G.2.2.1 G.2.2.2)).reverse ++ st2.map (pm_vl G.2.2.1 G.2.2.2) := by
        rw [hst, List.map_append, List.map_reverse]
      rw [hstk]
      refine pm_w_call hrun hS (fun H1 locs1 hH1 hS1 => ?_)
      have h2 := hk.2 H1 locs1 ls hl hH1 hS1 (by omega)
      rw [show u.1 - n0 + (u'.1 - u.1) = u'.1 - n0 by omega, show pm_sl u.1 - pm_sl n0 + (pm_sl u'.1 - pm_sl u.1) = pm_sl u'.1 - pm_sl n0 by omega]
      rw [List.map_append] at h2
      cases v <;> exact h2
/-- one step -/
theorem pm_s_do {ins : Jvm.ClassFile.Instr} {nx rk : Nat} {cal : Nat → List pm_V → pm_S → Option pm_Rs} (E : pm_E G sc M d p R s m args meth c) (hR : nf - n0 ≤ R.cells ∧ pm_sl nf - pm_sl n0 ≤ R.slots) (hC : pm_HC l G sc MT d cal) (hd : decode M.2.1 pc = .ok (ins, pm_len ins (nx - pc))) (hnx : nx = pc + pm_len ins (nx - pc)) (ho : pm_oki MT M pc ins ax = true) (hrk : M.2.2.2.2.2 = rk) (hu : u.1 ≤ nf)
    (h : pm_do cal sc rk ins nx ax lv st u (pm_kk p l e R s m args below meth c Q G M.2.2.1 n0 nf) (pm_PE p l e R s m args below meth c Q G M.2.1 rk n0) False) : pm_PW p l e R s m args below meth c Q G M.2.2.1 n0 pc lv st u := by
  cases ins
  case getfield i => simp only [pm_len] at hnx hd; subst hnx; exact pm_s_get E hd ho h
  case putfield i => simp only [pm_len] at hnx hd; subst hnx; exact pm_s_put E hd ho h
  case iaload => simp only [pm_len] at hnx hd; subst hnx; exact pm_s_iaload E hd h
  case baload => simp only [pm_len] at hnx hd; subst hnx; exact pm_s_baload E hd h
  case aaload => simp only [pm_len] at hnx hd; subst hnx; exact pm_s_aaload E hd h
  case iastore => simp only [pm_len] at hnx hd; subst hnx; exact pm_s_iastore E hd h
  case bastore => simp only [pm_len] at hnx hd; subst hnx; exact pm_s_bastore E hd h
  case aastore => simp only [pm_len] at hnx hd; subst hnx; exact pm_s_aastore E hd h
  case arraylength =>
    simp only [pm_len] at hnx hd; subst hnx
    rcases st with _ | ⟨x | b | q | q, st⟩
    · exact h.elim
    · exact h.elim
    · exact h.elim
    · exact h.elim
    · exact pm_s_alen E hd h
  case new i => simp only [pm_len] at hnx hd; subst hnx; exact pm_s_new E hR hd ho h
  case newarray i => simp only [pm_len] at hnx hd; subst hnx; exact pm_s_newarray E hR hd ho h
  case anewarray i => simp only [pm_len] at hnx hd; subst hnx; exact pm_s_anewarray E hR hd ho h
  case invokevirtual i => simp only [pm_len] at hnx hd; subst hnx; exact pm_s_virt E hR hC hd ho h
  case invokespecial i => simp only [pm_len] at hnx hd; subst hnx; exact pm_s_spec E hR hC hd ho h
  case invokestatic i => simp only [pm_len] at hnx hd; subst hnx; exact pm_s_static E hR hC hd ho h
  all_goals exact pm_s_plain E hd hnx ho hrk hu rfl h
/-- a run, to its end -/
theorem pm_s_loop {rk : Nat} {cal : Nat → List pm_V → pm_S → Option pm_Rs} {r : pm_Rs} (E : pm_E G sc M d p R s m args meth c) (hok : pm_okm MT M = true) (hR : r.2.1 - n0 ≤ R.cells ∧ pm_sl r.2.1 - pm_sl n0 ≤ R.slots) (hC : pm_HC l G sc MT d cal) (hcn : ∀ mi av u v u', cal mi av u = some (v, u') → u.1 ≤ u'.1) (hrk : M.2.2.2.2.2 = rk)
    (hend : pm_PE p l e R s m args below meth c Q G M.2.1 rk n0 r) : ∀ (f pc : Nat) (lv : pm_Lv) (st : List pm_V) (u : pm_S), pm_loop cal sc rk M.2.2.2.2.1 f pc lv st u = some r → pm_PW p l e R s m args below meth c Q G M.2.2.1 n0 pc lv st u
  | 0, _, _, _, _, h => by cases h
  | f + 1, pc, lv, st, u, h => by
    have hu : u.1 ≤ r.2.1 := pm_loop_n hcn (f + 1) pc lv st u h
    have h1 : pm_stp cal sc rk M.2.2.2.2.1 pc lv st u (pm_kk p l e R s m args below meth c Q G M.2.2.1 n0 r.2.1) (pm_PE p l e R s m args below meth c Q G M.2.1 rk n0) False := by
      revert h
      exact pm_stp_rel (R := fun (a : Option pm_Rs) (q : Prop) => a = some r → q) (fun pc lv st u h => ⟨pm_loop_n hcn f pc lv st u h, pm_s_loop E hok hR hC hcn hrk hend f pc lv st u h⟩) (fun r' h => by cases h; exact hend) (fun h => by cases h)
    unfold pm_stp at h1
    cases hf : pm_find M.2.2.2.2.1 pc with
    | none => rw [hf] at h1; exact h1.elim
    | some q =>
      obtain ⟨ins, nx, ax⟩ := q
      rw [hf] at h1
      obtain ⟨k1, k2, k3⟩ := pm_find_ok hok hf
      exact pm_s_do E hR hC k1 k2 k3 hrk hu h1
end PMC
theorem pm_args_eq (z b : Nat) : ∀ (av : List pm_V) (i : Nat), lv_args i (av.map (pm_vl z b)) = pm_lvv z b (pm_args i av)
  | [], _ => rfl
  | v :: vs, i => by
    show (i, pm_vl z b v) :: lv_args (if (pm_vl z b v).category = 2 then i + 2 else i + 1) (vs.map (pm_vl z b)) = (i, pm_vl z b v) :: pm_lvv z b (pm_args (i + 1) vs)
    rw [pm_cat, if_neg (by decide), pm_args_eq z b vs (i + 1)]
theorem pm_slen (z b : Nat) : ∀ av : List pm_V, (lg_sl (av.map (pm_vl z b))).length = av.length
  | [] => rfl
  | v :: vs => by
    have ih := pm_slen z b vs
    unfold lg_sl at ih ⊢
    rw [List.map_cons, List.flatMap_cons, List.length_append, ih, pm_cat, if_neg (by decide), List.length_cons]
    simp
    omega
/-- a method's contract out of its run -/
theorem pm_s_met {l : Launch} {G : pm_G} {sc : pm_Sc} {MT : List pm_Mt} {M : pm_Mt} {d : Nat} {cal : Nat → List pm_V → pm_S → Option pm_Rs} {av : List pm_V} {u : pm_S} {r : pm_Rs} (hok : pm_okm MT M = true) (hC : pm_HC l G sc MT d cal) (hcn : ∀ mi av u v u', cal mi av u = some (v, u') → u.1 ≤ u'.1) (hlen : av.length ≤ M.2.2.1) {f : Nat} (h : pm_loop cal sc M.2.2.2.2.2 M.2.2.2.2.1 f 0 (pm_args 0 av) [] u = some r) : pm_M l G sc d M av u r.1 r.2 := by
  have hok2 := hok
  simp only [pm_okm, Bool.and_eq_true] at hok2
  refine Met.ofW (cc := M.2.1) (maxL := M.2.2.1) (ret := M.2.2.2.1) hok2.1.1 rfl ?_
  intro p e s m args below meth c s₁ B hml hv
  obtain ⟨rfl, hH, hK, hX⟩ := hv
  have hts := atoms_spec (ws := .code M.1 M.2.1 M.2.2.1 M.2.2.2.1 :: pm_ga) B.pre
  have hnm := (name_of_methodNamed B.named B.method).1
  have hret : meth.sig.returnType = M.2.2.2.1 := B.returns
  have hlk : meth.locks = false := B.notSynchronized
  rw [lg_entry_eq]
  have E : pm_E G sc M d p (headSpec (.code M.1 M.2.1 M.2.2.1 M.2.2.2.1 :: pm_ga) (pm_rm d (r.2.1 - u.1) (pm_sl r.2.1 - pm_sl u.1))).room s m (av.map (pm_vl G.2.2.1 G.2.2.2)).toArray meth c := ⟨B.exec, B.bytes, hml, findClass_of_methodNamed B.named, fun w hw => hts w (List.mem_cons_of_mem _ hw), hK, hX, fun q => hnm.trans q, Nat.le_refl _, Nat.le_refl _⟩
  have hloc : lv_has ((lg_sl (av.map (pm_vl G.2.2.1 G.2.2.2)) ++ List.replicate (M.2.2.1 - (lg_sl (av.map (pm_vl G.2.2.1 G.2.2.2))).length) Slot.unset).toArray) M.2.2.1 (pm_lvv G.2.2.1 G.2.2.2 (pm_args 0 av)) := by
    rw [← pm_args_eq]
    exact lv_entry _ (by rw [pm_slen]; exact hlen)
  have key := pm_s_loop (l := l) (e := e) (below := below) (n0 := u.1) (r := r) (Q := MQ below (pm_Q G (r.1.map (pm_vl G.2.2.1 G.2.2.2)) r.2) (av.map (pm_vl G.2.2.1 G.2.2.2)).toArray s (r.2.1 - u.1) (pm_sl r.2.1 - pm_sl u.1) (pm_A G)) E hok ⟨Nat.le_refl _, Nat.le_refl _⟩ hC hcn rfl ?_ f 0 (pm_args 0 av) [] u h s.heap [] _ hloc hH va_S.rf (Nat.le_refl _)
  · rw [Nat.sub_self, Nat.sub_self] at key
    exact key
  · intro H locs ls pc hHr hS hn hshp hd
    have hq : ∀ t : State, t.heap = H → s.WarmedH t.vm → pm_Q G (r.1.map (pm_vl G.2.2.1 G.2.2.2)) r.2 (av.map (pm_vl G.2.2.1 G.2.2.2)).toArray s (.returned (r.1.map (pm_vl G.2.2.1 G.2.2.2))) t := fun t ht _ => ⟨rfl, by rw [ht]; exact hHr, hS.F ht⟩
    have hrk := hok2.1.2
    obtain ⟨rv, ru⟩ := r
    revert hrk hret hshp hd
    generalize M.2.2.2.1 = ret
    generalize M.2.2.2.2.2 = rk
    intro hret hd hrk hshp
    rcases rk with _ | _ | _ | _ | rk
    · rcases rv with _ | v
      · rcases ret with _ | t
        · exact W.vret B.exec B.bytes hret hq hS.2.2 hd hlk
        · cases t <;> cases hrk
      · exact hshp.elim
    · rcases rv with _ | x | v
      · exact hshp.elim
      · rcases ret with _ | t
        · cases hrk
        · cases t <;> first | exact W.iret B.exec B.bytes hret hq hS.2.2 hd hlk | cases hrk
      · exact hshp.elim
    · rcases rv with _ | x | b | v
      · exact hshp.elim
      · exact hshp.elim
      · rcases ret with _ | t
        · cases hrk
        · cases t <;> first | (cases hrk; done) | exact W.zret B.exec B.bytes hret (by cases b <;> decide) hq hS.2.2 hd hlk
      · exact hshp.elim
    · rcases rv with _ | x | b | q | q
      · exact hshp.elim
      · exact hshp.elim
      · exact hshp.elim
      · rcases ret with _ | t
        · cases hrk
        · cases t <;> first | exact W.aret B.exec B.bytes hret (Or.inl ⟨_, rfl⟩) (va_rf_or _) hq hS.2.2 hd hlk | cases hrk
      · exact hshp.elim
    · rcases ret with _ | t
      · cases hrk
      · cases t <;> cases hrk
/-- all methods, at every depth -/
theorem pm_s_call {l : Launch} {G : pm_G} {sc : pm_Sc} {MT : List pm_Mt} {T : Nat → pm_Cd × Nat} (hT : ∀ mi N, MT[mi]? = some N → T mi = (N.2.2.2.2.1, N.2.2.2.2.2)) (hok : ∀ M ∈ MT, pm_okm MT M = true) : ∀ d : Nat, pm_HC l G sc MT (d + 1) (pm_call T sc d)
  | 0 => by
    intro mi N av u v u' hN hlen h
    refine ⟨pm_call_n 0 mi av u v u' h, 0, rfl, ?_⟩
    obtain ⟨f, hf⟩ := pm_ev_some h
    rw [hT mi N hN] at hf
    exact pm_s_met (r := (v, u')) (hok N (List.mem_of_getElem? hN)) (fun _ _ _ _ _ _ _ _ h => by cases h) (fun _ _ _ _ _ h => by cases h) hlen hf
  | d + 1 => by
    intro mi N av u v u' hN hlen h
    refine ⟨pm_call_n (d + 1) mi av u v u' h, d + 1, rfl, ?_⟩
    obtain ⟨f, hf⟩ := pm_ev_some h
    rw [hT mi N hN] at hf
    exact pm_s_met (r := (v, u')) (hok N (List.mem_of_getElem? hN)) (pm_s_call hT hok d) (fun mi av u v u' h => pm_call_n d mi av u v u' h) hlen hf
end
section
/-! The code of all methods, for my small machine (printed by wip/gen/tab.py). -/
/-- 0: PlatformDoors$Frame.<init>()V -/
def pm_c0 : pm_Cd := [
  [(0, .aload_n 0, 1, []), (1, .invokespecial 3, 4, []), (4, .return_, 5, [])]]
def pm_m0 : pm_Mt := (⟨"PlatformDoors$Frame", "<init>", "()V"⟩, prog_2_method_1_code, 1, none, pm_c0, 0)
/-- 1: PlatformDoors$Frame.clear()V -/
def pm_c1 : pm_Cd := [
  [(0, .aload_n 0, 1, []), (1, .iconst 0, 2, []), (2, .putfield 9, 5, [0, 0, 0, 1]), (5, .aload_n 0, 6, []), (6, .iconst 0, 7, []), (7, .putfield 15, 10, [1, 0, 0, 1]), (10, .aload_n 0, 11, []), (11, .iconst 0, 12, []), (12, .putfield 18, 15, [2, 0, 0, 1]), (15, .aload_n 0, 16, [])],
  [(16, .iconst 0, 17, []), (17, .putfield 21, 20, [3, 0, 0, 1]), (20, .aload_n 0, 21, []), (21, .iconst 0, 22, []), (22, .putfield 24, 25, [4, 1, 0, 1]), (25, .aload_n 0, 26, []), (26, .iconst 0, 27, []), (27, .putfield 28, 30, [5, 1, 0, 1]), (30, .return_, 31, [])]]
def pm_m1 : pm_Mt := (⟨"PlatformDoors$Frame", "clear", "()V"⟩, prog_2_method_2_code, 1, none, pm_c1, 0)
/-- 2: PlatformDoors$Frame.copyFrom(LPlatformDoors$Frame;)V -/
def pm_c2 : pm_Cd := [
  [(0, .aload_n 0, 1, []), (1, .aload_n 1, 2, []), (2, .getfield 9, 5, [0, 0, 1]), (5, .putfield 9, 8, [0, 0, 0, 1]), (8, .aload_n 0, 9, []), (9, .aload_n 1, 10, []), (10, .getfield 15, 13, [1, 0, 1]), (13, .putfield 15, 16, [1, 0, 0, 1])],
  [(16, .aload_n 0, 17, []), (17, .aload_n 1, 18, []), (18, .getfield 18, 21, [2, 0, 1]), (21, .putfield 18, 24, [2, 0, 0, 1]), (24, .aload_n 0, 25, []), (25, .aload_n 1, 26, []), (26, .getfield 21, 29, [3, 0, 1]), (29, .putfield 21, 32, [3, 0, 0, 1])],
  [(32, .aload_n 0, 33, []), (33, .aload_n 1, 34, []), (34, .getfield 24, 37, [4, 1, 1]), (37, .putfield 24, 40, [4, 1, 0, 1]), (40, .aload_n 0, 41, []), (41, .aload_n 1, 42, []), (42, .getfield 28, 45, [5, 1, 1]), (45, .putfield 28, 48, [5, 1, 0, 1])],
  [(48, .return_, 49, [])]]
def pm_m2 : pm_Mt := (⟨"PlatformDoors$Frame", "copyFrom", "(LPlatformDoors$Frame;)V"⟩, prog_2_method_3_code, 2, none, pm_c2, 0)
/-- 3: PlatformDoors$Frame.tellsIsolated(I)Z -/
def pm_c3 : pm_Cd := [
  [(0, .aload_n 0, 1, []), (1, .getfield 21, 4, [3, 0, 1]), (4, .iload_n 1, 5, []), (5, .ishr, 6, []), (6, .iconst 1, 7, []), (7, .iand, 8, []), (8, .iconst 1, 9, []), (9, .if_icmp .ne 7, 12, [16]), (12, .iconst 1, 13, []), (13, .goto 4, 16, [17])],
  [(16, .iconst 0, 17, []), (17, .ireturn, 18, [])]]
def pm_m3 : pm_Mt := (⟨"PlatformDoors$Frame", "tellsIsolated", "(I)Z"⟩, prog_2_method_4_code, 2, (some .boolean), pm_c3, 2)
/-- 4: PlatformDoors$Frame.part(I)I -/
def pm_c4 : pm_Cd := [
  [(0, .iload_n 1, 1, []), (1, .tableswitch 75 0 5 #[39, 44, 49, 54, 59, 67], 40, [76, 40, 45, 50, 55, 60, 68])],
  [],
  [(40, .aload_n 0, 41, []), (41, .getfield 9, 44, [0, 0, 1]), (44, .ireturn, 45, []), (45, .aload_n 0, 46, []), (46, .getfield 15, 49, [1, 0, 1])],
  [(49, .ireturn, 50, []), (50, .aload_n 0, 51, []), (51, .getfield 18, 54, [2, 0, 1]), (54, .ireturn, 55, []), (55, .aload_n 0, 56, []), (56, .getfield 21, 59, [3, 0, 1]), (59, .ireturn, 60, []), (60, .aload_n 0, 61, []), (61, .getfield 24, 64, [4, 1, 1])],
  [(64, .invokestatic 31, 67, [1, 72]), (67, .ireturn, 68, []), (68, .aload_n 0, 69, []), (69, .getfield 28, 72, [5, 1, 1]), (72, .invokestatic 31, 75, [1, 72]), (75, .ireturn, 76, []), (76, .iconst (-1), 77, []), (77, .ireturn, 78, [])]]
def pm_m4 : pm_Mt := (⟨"PlatformDoors$Frame", "part", "(I)I"⟩, prog_2_method_5_code, 2, (some .int), pm_c4, 1)
/-- 5: PlatformDoors$Leaf.<init>()V -/
def pm_c5 : pm_Cd := [
  [(0, .aload_n 0, 1, []), (1, .invokespecial 3, 4, []), (4, .aload_n 0, 5, []), (5, .iconst 2, 6, []), (6, .newarray .int, 8, [0]), (8, .putfield 9, 11, [0, 2, 0, 2]), (11, .return_, 12, [])]]
def pm_m5 : pm_Mt := (⟨"PlatformDoors$Leaf", "<init>", "()V"⟩, prog_3_method_1_code, 1, none, pm_c5, 0)
/-- 6: PlatformDoors$Leaf.clear()V -/
def pm_c6 : pm_Cd := [
  [(0, .aload_n 0, 1, []), (1, .getfield 9, 4, [0, 2, 2]), (4, .iconst 0, 5, []), (5, .iconst 0, 6, []), (6, .iastore, 7, []), (7, .aload_n 0, 8, []), (8, .getfield 9, 11, [0, 2, 2]), (11, .iconst 1, 12, []), (12, .iconst 0, 13, []), (13, .iastore, 14, []), (14, .aload_n 0, 15, []), (15, .iconst 0, 16, [])],
  [(16, .putfield 15, 19, [1, 0, 0, 2]), (19, .aload_n 0, 20, []), (20, .iconst 0, 21, []), (21, .putfield 19, 24, [2, 0, 0, 2]), (24, .aload_n 0, 25, []), (25, .iconst 0, 26, []), (26, .putfield 22, 29, [3, 0, 0, 2]), (29, .aload_n 0, 30, []), (30, .iconst 0, 31, []), (31, .putfield 25, 34, [4, 0, 0, 2])],
  [(34, .aload_n 0, 35, []), (35, .iconst 0, 36, []), (36, .putfield 28, 39, [5, 1, 0, 2]), (39, .aload_n 0, 40, []), (40, .iconst 0, 41, []), (41, .putfield 32, 44, [6, 1, 0, 2]), (44, .aload_n 0, 45, []), (45, .iconst 0, 46, []), (46, .putfield 35, 49, [7, 1, 0, 2])],
  [(49, .aload_n 0, 50, []), (50, .iconst 0, 51, []), (51, .putfield 38, 54, [8, 1, 0, 2]), (54, .return_, 55, [])]]
def pm_m6 : pm_Mt := (⟨"PlatformDoors$Leaf", "clear", "()V"⟩, prog_3_method_2_code, 1, none, pm_c6, 0)
/-- 7: PlatformDoors$Leaf.advance(Z)V -/
def pm_c7 : pm_Cd := [
  [(0, .aload_n 0, 1, []), (1, .iload_n 1, 2, []), (2, .ifCond .eq 10, 5, [12]), (5, .aload_n 0, 6, []), (6, .getfield 32, 9, [6, 1, 2]), (9, .ifCond .eq 10, 12, [19]), (12, .aload_n 0, 13, []), (13, .getfield 22, 16, [3, 0, 2])],
  [(16, .ifCond .le 7, 19, [23]), (19, .iconst 1, 20, []), (20, .goto 4, 23, [24]), (23, .iconst 0, 24, []), (24, .putfield 28, 27, [5, 1, 0, 2]), (27, .aload_n 0, 28, []), (28, .invokevirtual 41, 31, [0, 2, 2, 8]), (31, .aload_n 0, 32, [])],
  [(32, .invokevirtual 44, 35, [0, 2, 2, 10]), (35, .ifCond .eq 13, 38, [48]), (38, .aload_n 0, 39, []), (39, .iconst 0, 40, []), (40, .putfield 19, 43, [2, 0, 0, 2]), (43, .aload_n 0, 44, []), (44, .iconst 0, 45, []), (45, .putfield 38, 48, [8, 1, 0, 2])],
  [(48, .aload_n 0, 49, []), (49, .iconst 0, 50, []), (50, .aload_n 0, 51, []), (51, .getfield 25, 54, [4, 0, 2]), (54, .iconst 1, 55, []), (55, .isub, 56, []), (56, .invokestatic 48, 59, [0]), (59, .putfield 25, 62, [4, 0, 0, 2]), (62, .aload_n 0, 63, []), (63, .iconst 0, 64, [])],
  [(64, .aload_n 0, 65, []), (65, .getfield 22, 68, [3, 0, 2]), (68, .iconst 1, 69, []), (69, .isub, 70, []), (70, .invokestatic 48, 73, [0]), (73, .putfield 22, 76, [3, 0, 0, 2]), (76, .return_, 77, [])]]
def pm_m7 : pm_Mt := (⟨"PlatformDoors$Leaf", "advance", "(Z)V"⟩, prog_3_method_3_code, 2, none, pm_c7, 0)
/-- 8: PlatformDoors$Leaf.move()V -/
def pm_c8 : pm_Cd := [
  [(0, .aload_n 0, 1, []), (1, .getfield 35, 4, [7, 1, 2]), (4, .ifCond .eq 22, 7, [26]), (7, .aload_n 0, 8, []), (8, .bipush 100, 10, []), (10, .aload_n 0, 11, []), (11, .getfield 15, 14, [1, 0, 2]), (14, .bipush 10, 16, [])],
  [(16, .iadd, 17, []), (17, .invokestatic 54, 20, [1]), (20, .putfield 15, 23, [1, 0, 0, 2]), (23, .goto 72, 26, [95]), (26, .aload_n 0, 27, []), (27, .getfield 28, 30, [5, 1, 2]), (30, .ifCond .eq 21, 33, [51])],
  [(33, .aload_n 0, 34, []), (34, .bipush 100, 36, []), (36, .aload_n 0, 37, []), (37, .getfield 15, 40, [1, 0, 2]), (40, .iconst 5, 41, []), (41, .iadd, 42, []), (42, .invokestatic 54, 45, [1]), (45, .putfield 15, 48, [1, 0, 0, 2])],
  [(48, .goto 47, 51, [95]), (51, .aload_n 0, 52, []), (52, .getfield 15, 55, [1, 0, 2]), (55, .ifCond .le 26, 58, [81]), (58, .aload_n 0, 59, []), (59, .getfield 15, 62, [1, 0, 2]), (62, .bipush 40, 64, [])],
  [(64, .if_icmp .gt 17, 67, [81]), (67, .aload_n 0, 68, []), (68, .getfield 25, 71, [4, 0, 2]), (71, .ifCond .le 10, 74, [81]), (74, .aload_n 0, 75, []), (75, .invokevirtual 57, 78, [0, 2, 2, 9]), (78, .goto 17, 81, [95])],
  [(81, .aload_n 0, 82, []), (82, .iconst 0, 83, []), (83, .aload_n 0, 84, []), (84, .getfield 15, 87, [1, 0, 2]), (87, .iconst 5, 88, []), (88, .isub, 89, []), (89, .invokestatic 48, 92, [0]), (92, .putfield 15, 95, [1, 0, 0, 2]), (95, .return_, 96, [])]]
def pm_m8 : pm_Mt := (⟨"PlatformDoors$Leaf", "move", "()V"⟩, prog_3_method_4_code, 1, none, pm_c8, 0)
/-- 9: PlatformDoors$Leaf.feel()V -/
def pm_c9 : pm_Cd := [
  [(0, .aload_n 0, 1, []), (1, .getfield 19, 4, [2, 0, 2]), (4, .iconst 3, 5, []), (5, .if_icmp .ge 22, 8, [27]), (8, .aload_n 0, 9, []), (9, .dup, 10, []), (10, .getfield 19, 13, [2, 0, 2]), (13, .iconst 1, 14, []), (14, .iadd, 15, []), (15, .putfield 19, 18, [2, 0, 0, 2])],
  [(18, .aload_n 0, 19, []), (19, .bipush 41, 21, []), (21, .putfield 22, 24, [3, 0, 0, 2]), (24, .goto 8, 27, [32]), (27, .aload_n 0, 28, []), (28, .iconst 1, 29, []), (29, .putfield 38, 32, [8, 1, 0, 2])],
  [(32, .return_, 33, [])]]
def pm_m9 : pm_Mt := (⟨"PlatformDoors$Leaf", "feel", "()V"⟩, prog_3_method_5_code, 1, none, pm_c9, 0)
/-- 10: PlatformDoors$Leaf.isLocked()Z -/
def pm_c10 : pm_Cd := [
  [(0, .aload_n 0, 1, []), (1, .getfield 15, 4, [1, 0, 2]), (4, .ifCond .ne 21, 7, [25]), (7, .aload_n 0, 8, []), (8, .getfield 28, 11, [5, 1, 2]), (11, .ifCond .ne 14, 14, [25]), (14, .aload_n 0, 15, []), (15, .getfield 35, 18, [7, 1, 2])],
  [(18, .ifCond .ne 7, 21, [25]), (21, .iconst 1, 22, []), (22, .goto 4, 25, [26]), (25, .iconst 0, 26, []), (26, .ireturn, 27, [])]]
def pm_m10 : pm_Mt := (⟨"PlatformDoors$Leaf", "isLocked", "()Z"⟩, prog_3_method_6_code, 1, (some .boolean), pm_c10, 2)
/-- 11: PlatformDoors$Leaf.isToldLocked()Z -/
def pm_c11 : pm_Cd := [
  [(0, .aload_n 0, 1, []), (1, .invokevirtual 44, 4, [0, 2, 2, 10]), (4, .istore_n 1, 5, []), (5, .aload_n 0, 6, []), (6, .getfield 9, 9, [0, 2, 2]), (9, .iconst 0, 10, []), (10, .iaload, 11, []), (11, .iload_n 1, 12, []), (12, .invokestatic 60, 15, [2, 12]), (15, .ifCond .eq 20, 18, [35])],
  [(18, .aload_n 0, 19, []), (19, .getfield 9, 22, [0, 2, 2]), (22, .iconst 1, 23, []), (23, .iaload, 24, []), (24, .iload_n 1, 25, []), (25, .invokestatic 60, 28, [2, 12]), (28, .ifCond .eq 7, 31, [35]), (31, .iconst 1, 32, [])],
  [(32, .goto 4, 35, [36]), (35, .iconst 0, 36, []), (36, .ireturn, 37, [])]]
def pm_m11 : pm_Mt := (⟨"PlatformDoors$Leaf", "isToldLocked", "()Z"⟩, prog_3_method_7_code, 2, (some .boolean), pm_c11, 2)
/-- 12: PlatformDoors$Leaf.saysLocked(IZ)Z -/
def pm_c12 : pm_Cd := [
  [(0, .iload_n 0, 1, []), (1, .iconst 1, 2, []), (2, .if_icmp .eq 12, 5, [14]), (5, .iload_n 0, 6, []), (6, .iconst 2, 7, []), (7, .if_icmp .eq 11, 10, [18]), (10, .iload_n 1, 11, []), (11, .ifCond .eq 7, 14, [18]), (14, .iconst 1, 15, []), (15, .goto 4, 18, [19])],
  [(18, .iconst 0, 19, []), (19, .ireturn, 20, [])]]
def pm_m12 : pm_Mt := (⟨"PlatformDoors$Leaf", "saysLocked", "(IZ)Z"⟩, prog_3_method_8_code, 2, (some .boolean), pm_c12, 2)
/-- 13: PlatformDoors$Leaf.part(I)I -/
def pm_c13 : pm_Cd := [
  [(0, .iload_n 1, 1, []), (1, .tableswitch 99 0 7 #[47, 52, 60, 68, 76, 81, 89, 94], 48, [100, 48, 53, 61, 69, 77, 82, 90, 95])],
  [],
  [],
  [(48, .aload_n 0, 49, []), (49, .getfield 15, 52, [1, 0, 2]), (52, .ireturn, 53, []), (53, .aload_n 0, 54, []), (54, .getfield 28, 57, [5, 1, 2]), (57, .invokestatic 64, 60, [1, 72]), (60, .ireturn, 61, []), (61, .aload_n 0, 62, []), (62, .invokevirtual 44, 65, [0, 2, 2, 10])],
  [(65, .invokestatic 64, 68, [1, 72]), (68, .ireturn, 69, []), (69, .aload_n 0, 70, []), (70, .invokevirtual 68, 73, [0, 2, 2, 11]), (73, .invokestatic 64, 76, [1, 72]), (76, .ireturn, 77, []), (77, .aload_n 0, 78, []), (78, .getfield 19, 81, [2, 0, 2])],
  [(81, .ireturn, 82, []), (82, .aload_n 0, 83, []), (83, .getfield 38, 86, [8, 1, 2]), (86, .invokestatic 64, 89, [1, 72]), (89, .ireturn, 90, []), (90, .aload_n 0, 91, []), (91, .getfield 22, 94, [3, 0, 2]), (94, .ireturn, 95, []), (95, .aload_n 0, 96, [])],
  [(96, .getfield 25, 99, [4, 0, 2]), (99, .ireturn, 100, []), (100, .iconst (-1), 101, []), (101, .ireturn, 102, [])]]
def pm_m13 : pm_Mt := (⟨"PlatformDoors$Leaf", "part", "(I)I"⟩, prog_3_method_9_code, 2, (some .int), pm_c13, 1)
/-- 14: PlatformDoors$Line.<init>()V -/
def pm_c14 : pm_Cd := [
  [(0, .aload_n 0, 1, []), (1, .invokespecial 3, 4, []), (4, .aload_n 0, 5, []), (5, .bipush 12, 7, []), (7, .anewarray 9, 10, [2]), (10, .putfield 11, 13, [0, 2, 0, 3]), (13, .iconst 0, 14, []), (14, .istore_n 1, 15, []), (15, .iload_n 1, 16, [])],
  [(16, .bipush 12, 18, []), (18, .if_icmp .ge 22, 21, [40]), (21, .aload_n 0, 22, []), (22, .getfield 11, 25, [0, 2, 3]), (25, .iload_n 1, 26, []), (26, .new 9, 29, [1]), (29, .dup, 30, []), (30, .invokespecial 17, 33, [0, 0])],
  [(33, .aastore, 34, []), (34, .iinc 1 1, 37, []), (37, .goto (-22), 40, [15]), (40, .return_, 41, [])]]
def pm_m14 : pm_Mt := (⟨"PlatformDoors$Line", "<init>", "()V"⟩, prog_4_method_1_code, 2, none, pm_c14, 0)
/-- 15: PlatformDoors$Line.isFull()Z -/
def pm_c15 : pm_Cd := [
  [(0, .aload_n 0, 1, []), (1, .getfield 18, 4, [1, 0, 3]), (4, .bipush 12, 6, []), (6, .if_icmp .lt 7, 9, [13]), (9, .iconst 1, 10, []), (10, .goto 4, 13, [14]), (13, .iconst 0, 14, []), (14, .ireturn, 15, [])]]
def pm_m15 : pm_Mt := (⟨"PlatformDoors$Line", "isFull", "()Z"⟩, prog_4_method_2_code, 1, (some .boolean), pm_c15, 2)
/-- 16: PlatformDoors$Line.lengthen()LPlatformDoors$Frame; -/
def pm_c16 : pm_Cd := [
  [(0, .aload_n 0, 1, []), (1, .dup, 2, []), (2, .getfield 18, 5, [1, 0, 3]), (5, .iconst 1, 6, []), (6, .iadd, 7, []), (7, .putfield 18, 10, [1, 0, 0, 3]), (10, .aload_n 0, 11, []), (11, .getfield 11, 14, [0, 2, 3]), (14, .aload_n 0, 15, []), (15, .getfield 18, 18, [1, 0, 3])],
  [(18, .iconst 1, 19, []), (19, .isub, 20, []), (20, .aaload, 21, []), (21, .areturn, 22, [])]]
def pm_m16 : pm_Mt := (⟨"PlatformDoors$Line", "lengthen", "()LPlatformDoors$Frame;"⟩, prog_4_method_3_code, 1, (some (.object "PlatformDoors$Frame")), pm_c16, 3)
/-- 17: PlatformDoors$Line.removeAt(I)V -/
def pm_c17 : pm_Cd := [
  [(0, .aload_n 0, 1, []), (1, .getfield 11, 4, [0, 2, 3]), (4, .iload_n 1, 5, []), (5, .aaload, 6, []), (6, .astore_n 2, 7, []), (7, .iload_n 1, 8, []), (8, .istore_n 3, 9, []), (9, .iload_n 3, 10, []), (10, .aload_n 0, 11, []), (11, .getfield 18, 14, [1, 0, 3]), (14, .iconst 1, 15, []), (15, .isub, 16, [])],
  [(16, .if_icmp .ge 23, 19, [39]), (19, .aload_n 0, 20, []), (20, .getfield 11, 23, [0, 2, 3]), (23, .iload_n 3, 24, []), (24, .aload_n 0, 25, []), (25, .getfield 11, 28, [0, 2, 3]), (28, .iload_n 3, 29, []), (29, .iconst 1, 30, []), (30, .iadd, 31, []), (31, .aaload, 32, [])],
  [(32, .aastore, 33, []), (33, .iinc 3 1, 36, []), (36, .goto (-27), 39, [9]), (39, .aload_n 0, 40, []), (40, .dup, 41, []), (41, .getfield 18, 44, [1, 0, 3]), (44, .iconst 1, 45, []), (45, .isub, 46, []), (46, .putfield 18, 49, [1, 0, 0, 3])],
  [(49, .aload_n 0, 50, []), (50, .getfield 11, 53, [0, 2, 3]), (53, .aload_n 0, 54, []), (54, .getfield 18, 57, [1, 0, 3]), (57, .aload_n 2, 58, []), (58, .aastore, 59, []), (59, .return_, 60, [])]]
def pm_m17 : pm_Mt := (⟨"PlatformDoors$Line", "removeAt", "(I)V"⟩, prog_4_method_4_code, 4, none, pm_c17, 0)
/-- 18: PlatformDoors$Line.doubleAt(I)V -/
def pm_c18 : pm_Cd := [
  [(0, .aload_n 0, 1, []), (1, .invokevirtual 22, 4, [0, 3, 3, 16]), (4, .astore_n 2, 5, []), (5, .aload_n 2, 6, []), (6, .aload_n 0, 7, []), (7, .getfield 11, 10, [0, 2, 3]), (10, .iload_n 1, 11, []), (11, .aaload, 12, []), (12, .invokevirtual 26, 15, [1, 1, 1, 2]), (15, .aload_n 0, 16, [])],
  [(16, .getfield 18, 19, [1, 0, 3]), (19, .iconst 1, 20, []), (20, .isub, 21, []), (21, .istore_n 3, 22, []), (22, .iload_n 3, 23, []), (23, .iload_n 1, 24, []), (24, .iconst 1, 25, []), (25, .iadd, 26, []), (26, .if_icmp .le 23, 29, [49]), (29, .aload_n 0, 30, []), (30, .getfield 11, 33, [0, 2, 3])],
  [(33, .iload_n 3, 34, []), (34, .aload_n 0, 35, []), (35, .getfield 11, 38, [0, 2, 3]), (38, .iload_n 3, 39, []), (39, .iconst 1, 40, []), (40, .isub, 41, []), (41, .aaload, 42, []), (42, .aastore, 43, []), (43, .iinc 3 (-1), 46, []), (46, .goto (-24), 49, [22])],
  [(49, .aload_n 0, 50, []), (50, .getfield 11, 53, [0, 2, 3]), (53, .iload_n 1, 54, []), (54, .iconst 1, 55, []), (55, .iadd, 56, []), (56, .aload_n 2, 57, []), (57, .aastore, 58, []), (58, .return_, 59, [])]]
def pm_m18 : pm_Mt := (⟨"PlatformDoors$Line", "doubleAt", "(I)V"⟩, prog_4_method_5_code, 4, none, pm_c18, 0)
/-- 19: PlatformDoors$Side.<init>(LPlatformDoors$Line;LPlatformDoors$Line;)V -/
def pm_c19 : pm_Cd := [
  [(0, .aload_n 0, 1, []), (1, .invokespecial 3, 4, []), (4, .aload_n 0, 5, []), (5, .bipush 8, 7, []), (7, .anewarray 9, 10, [3]), (10, .putfield 11, 13, [0, 2, 0, 4, 5]), (13, .aload_n 0, 14, []), (14, .new 17, 17, [1])],
  [(17, .dup, 18, []), (18, .invokespecial 19, 21, [0, 0]), (21, .putfield 20, 24, [1, 2, 0, 4, 5]), (24, .aload_n 0, 25, []), (25, .aload_n 1, 26, []), (26, .putfield 24, 29, [2, 2, 0, 4, 5]), (29, .aload_n 0, 30, []), (30, .aload_n 2, 31, []), (31, .putfield 28, 34, [3, 2, 0, 4, 5])],
  [(34, .iconst 0, 35, []), (35, .istore_n 3, 36, []), (36, .iload_n 3, 37, []), (37, .bipush 8, 39, []), (39, .if_icmp .ge 22, 42, [61]), (42, .aload_n 0, 43, []), (43, .getfield 11, 46, [0, 2, 4, 5]), (46, .iload_n 3, 47, []), (47, .new 9, 50, [2])],
  [(50, .dup, 51, []), (51, .invokespecial 31, 54, [0, 5]), (54, .aastore, 55, []), (55, .iinc 3 1, 58, []), (58, .goto (-22), 61, [36]), (61, .return_, 62, [])]]
def pm_m19 : pm_Mt := (⟨"PlatformDoors$Side", "<init>", "(LPlatformDoors$Line;LPlatformDoors$Line;)V"⟩, prog_6_method_1_code, 4, none, pm_c19, 0)
/-- 20: PlatformDoors$Side.restartSide()V -/
def pm_c20 : pm_Cd := [
  [(0, .iconst 0, 1, []), (1, .istore_n 1, 2, []), (2, .iload_n 1, 3, []), (3, .bipush 8, 5, []), (5, .if_icmp .ge 18, 8, [23]), (8, .aload_n 0, 9, []), (9, .getfield 11, 12, [0, 2, 4, 5]), (12, .iload_n 1, 13, []), (13, .aaload, 14, []), (14, .invokevirtual 32, 17, [0, 2, 2, 6])],
  [(17, .iinc 1 1, 20, []), (20, .goto (-18), 23, [2]), (23, .aload_n 0, 24, []), (24, .getfield 20, 27, [1, 2, 4, 5]), (27, .invokevirtual 35, 30, [0, 1, 1, 1]), (30, .aload_n 0, 31, []), (31, .getfield 24, 34, [2, 2, 4, 5])],
  [(34, .iconst 0, 35, []), (35, .putfield 36, 38, [1, 0, 0, 3]), (38, .aload_n 0, 39, []), (39, .iconst 0, 40, []), (40, .putfield 42, 43, [4, 0, 0, 4, 5]), (43, .aload_n 0, 44, []), (44, .iconst 0, 45, []), (45, .putfield 45, 48, [5, 0, 0, 4, 5])],
  [(48, .aload_n 0, 49, []), (49, .iconst 0, 50, []), (50, .putfield 48, 53, [6, 0, 0, 4, 5]), (53, .aload_n 0, 54, []), (54, .iconst 0, 55, []), (55, .putfield 51, 58, [7, 0, 0, 4, 5]), (58, .aload_n 0, 59, []), (59, .iconst 0, 60, []), (60, .putfield 54, 63, [8, 0, 0, 4, 5]), (63, .return_, 64, [])]]
def pm_m20 : pm_Mt := (⟨"PlatformDoors$Side", "restartSide", "()V"⟩, prog_6_method_7_code, 2, none, pm_c20, 0)
/-- 21: PlatformDoors$Side.advance()V -/
def pm_c21 : pm_Cd := [
  [(0, .aload_n 0, 1, []), (1, .dup, 2, []), (2, .getfield 42, 5, [4, 0, 4, 5]), (5, .iconst 1, 6, []), (6, .iadd, 7, []), (7, .putfield 42, 10, [4, 0, 0, 4, 5]), (10, .aload_n 0, 11, []), (11, .invokevirtual 57, 14, [0, 7, 4, 41, 5, 33]), (14, .aload_n 0, 15, []), (15, .invokevirtual 60, 18, [0, 7, 4, 22, 5, 22])],
  [(18, .iconst 0, 19, []), (19, .istore_n 1, 20, []), (20, .iload_n 1, 21, []), (21, .bipush 8, 23, []), (23, .if_icmp .ge 41, 26, [64]), (26, .aload_n 0, 27, []), (27, .getfield 11, 30, [0, 2, 4, 5]), (30, .iload_n 1, 31, []), (31, .aaload, 32, [])],
  [(32, .aload_n 0, 33, []), (33, .getfield 45, 36, [5, 0, 4, 5]), (36, .ifCond .eq 18, 39, [54]), (39, .aload_n 0, 40, []), (40, .getfield 20, 43, [1, 2, 4, 5]), (43, .iload_n 1, 44, []), (44, .invokevirtual 63, 47, [1, 1, 1, 3]), (47, .ifCond .ne 7, 50, [54])],
  [(50, .iconst 1, 51, []), (51, .goto 4, 54, [55]), (54, .iconst 0, 55, []), (55, .invokevirtual 67, 58, [1, 2, 2, 7]), (58, .iinc 1 1, 61, []), (61, .goto (-41), 64, [20])],
  [(64, .aload_n 0, 65, []), (65, .getfield 42, 68, [4, 0, 4, 5]), (68, .iconst 5, 69, []), (69, .irem, 70, []), (70, .ifCond .ne 7, 73, [77]), (73, .aload_n 0, 74, []), (74, .invokevirtual 71, 77, [0, 7, 4, 23, 5, 23]), (77, .return_, 78, [])]]
def pm_m21 : pm_Mt := (⟨"PlatformDoors$Side", "advance", "()V"⟩, prog_6_method_8_code, 2, none, pm_c21, 0)
/-- 22: PlatformDoors$Side.changeState()V -/
def pm_c22 : pm_Cd := [
  [(0, .aload_n 0, 1, []), (1, .getfield 45, 4, [5, 0, 4, 5]), (4, .ifCond .ne 36, 7, [40]), (7, .aload_n 0, 8, []), (8, .invokevirtual 74, 11, [0, 7, 4, 42, 5, 34]), (11, .ifCond .eq 80, 14, [91]), (14, .aload_n 0, 15, []), (15, .iconst 1, 16, [])],
  [(16, .putfield 45, 19, [5, 0, 0, 4, 5]), (19, .aload_n 0, 20, []), (20, .aload_n 0, 21, []), (21, .getfield 42, 24, [4, 0, 4, 5]), (24, .putfield 51, 27, [7, 0, 0, 4, 5]), (27, .aload_n 0, 28, []), (28, .dup, 29, []), (29, .getfield 54, 32, [8, 0, 4, 5])],
  [(32, .iconst 1, 33, []), (33, .iadd, 34, []), (34, .putfield 54, 37, [8, 0, 0, 4, 5]), (37, .goto 54, 40, [91]), (40, .aload_n 0, 41, []), (41, .getfield 45, 44, [5, 0, 4, 5]), (44, .iconst 1, 45, []), (45, .if_icmp .ne 26, 48, [71])],
  [(48, .aload_n 0, 49, []), (49, .invokevirtual 78, 52, [0, 7, 4, 43, 5, 35]), (52, .ifCond .eq 39, 55, [91]), (55, .aload_n 0, 56, []), (56, .iconst 2, 57, []), (57, .putfield 45, 60, [5, 0, 0, 4, 5]), (60, .aload_n 0, 61, []), (61, .aload_n 0, 62, []), (62, .getfield 42, 65, [4, 0, 4, 5])],
  [(65, .putfield 48, 68, [6, 0, 0, 4, 5]), (68, .goto 23, 71, [91]), (71, .aload_n 0, 72, []), (72, .getfield 42, 75, [4, 0, 4, 5]), (75, .aload_n 0, 76, []), (76, .getfield 48, 79, [6, 0, 4, 5]), (79, .isub, 80, [])],
  [(80, .sipush 150, 83, []), (83, .if_icmp .lt 8, 86, [91]), (86, .aload_n 0, 87, []), (87, .iconst 0, 88, []), (88, .putfield 45, 91, [5, 0, 0, 4, 5]), (91, .return_, 92, [])]]
def pm_m22 : pm_Mt := (⟨"PlatformDoors$Side", "changeState", "()V"⟩, prog_6_method_9_code, 1, none, pm_c22, 0)
/-- 23: PlatformDoors$Side.send()V -/
def pm_c23 : pm_Cd := [
  [(0, .aload_n 0, 1, []), (1, .getfield 28, 4, [3, 2, 4, 5]), (4, .invokevirtual 81, 7, [0, 3, 3, 15]), (7, .ifCond .eq 4, 10, [11]), (10, .return_, 11, []), (11, .aload_n 0, 12, []), (12, .getfield 28, 15, [3, 2, 4, 5]), (15, .invokevirtual 84, 18, [0, 3, 3, 16])],
  [(18, .astore_n 1, 19, []), (19, .aload_n 1, 20, []), (20, .aload_n 0, 21, []), (21, .getfield 42, 24, [4, 0, 4, 5]), (24, .iconst 5, 25, []), (25, .idiv, 26, []), (26, .putfield 88, 29, [0, 0, 0, 1]), (29, .aload_n 1, 30, []), (30, .aload_n 0, 31, []), (31, .getfield 20, 34, [1, 2, 4, 5])],
  [(34, .getfield 88, 37, [0, 0, 1]), (37, .putfield 91, 40, [1, 0, 0, 1]), (40, .aload_n 1, 41, []), (41, .aload_n 0, 42, []), (42, .getfield 45, 45, [5, 0, 4, 5]), (45, .putfield 94, 48, [2, 0, 0, 1])],
  [(48, .aload_n 1, 49, []), (49, .aload_n 0, 50, []), (50, .invokevirtual 95, 53, [0, 7, 4, 29, 5, 29]), (53, .putfield 99, 56, [3, 0, 0, 1]), (56, .aload_n 1, 57, []), (57, .aload_n 0, 58, []), (58, .invokevirtual 101, 61, [0, 7, 4, 44, 5, 36]), (61, .putfield 104, 64, [4, 1, 0, 1])],
  [(64, .aload_n 1, 65, []), (65, .aload_n 0, 66, []), (66, .invokevirtual 108, 69, [0, 7, 4, 45, 5, 37]), (69, .putfield 111, 72, [5, 1, 0, 1]), (72, .return_, 73, [])]]
def pm_m23 : pm_Mt := (⟨"PlatformDoors$Side", "send", "()V"⟩, prog_6_method_10_code, 2, none, pm_c23, 0)
/-- 24: PlatformDoors$Side.takes(LPlatformDoors$Frame;)Z -/
def pm_c24 : pm_Cd := [
  [(0, .aload_n 1, 1, []), (1, .getfield 88, 4, [0, 0, 1]), (4, .aload_n 0, 5, []), (5, .getfield 20, 8, [1, 2, 4, 5]), (8, .getfield 88, 11, [0, 0, 1]), (11, .if_icmp .gt 5, 14, [16]), (14, .iconst 0, 15, []), (15, .ireturn, 16, [])],
  [(16, .aload_n 0, 17, []), (17, .getfield 20, 20, [1, 2, 4, 5]), (20, .aload_n 1, 21, []), (21, .invokevirtual 114, 24, [1, 1, 1, 2]), (24, .iconst 1, 25, []), (25, .ireturn, 26, [])]]
def pm_m24 : pm_Mt := (⟨"PlatformDoors$Side", "takes", "(LPlatformDoors$Frame;)Z"⟩, prog_6_method_11_code, 2, (some .boolean), pm_c24, 2)
/-- 25: PlatformDoors$Side.age()I -/
def pm_c25 : pm_Cd := [
  [(0, .aload_n 0, 1, []), (1, .getfield 20, 4, [1, 2, 4, 5]), (4, .getfield 91, 7, [1, 0, 1]), (7, .ifCond .ne 8, 10, [15]), (10, .bipush (-2), 12, []), (12, .goto 17, 15, [29]), (15, .aload_n 0, 16, [])],
  [(16, .getfield 42, 19, [4, 0, 4, 5]), (19, .aload_n 0, 20, []), (20, .getfield 20, 23, [1, 2, 4, 5]), (23, .getfield 91, 26, [1, 0, 1]), (26, .iconst 5, 27, []), (27, .imul, 28, []), (28, .isub, 29, []), (29, .ireturn, 30, [])]]
def pm_m25 : pm_Mt := (⟨"PlatformDoors$Side", "age", "()I"⟩, prog_6_method_12_code, 1, (some .int), pm_c25, 1)
/-- 26: PlatformDoors$Side.isFresh()Z -/
def pm_c26 : pm_Cd := [
  [(0, .aload_n 0, 1, []), (1, .invokevirtual 118, 4, [0, 7, 4, 25, 5, 25]), (4, .istore_n 1, 5, []), (5, .iload_n 1, 6, []), (6, .bipush (-2), 8, []), (8, .if_icmp .eq 13, 11, [21]), (11, .iload_n 1, 12, []), (12, .bipush 25, 14, []), (14, .if_icmp .gt 7, 17, [21])],
  [(17, .iconst 1, 18, []), (18, .goto 4, 21, [22]), (21, .iconst 0, 22, []), (22, .ireturn, 23, [])]]
def pm_m26 : pm_Mt := (⟨"PlatformDoors$Side", "isFresh", "()Z"⟩, prog_6_method_13_code, 2, (some .boolean), pm_c26, 2)
/-- 27: PlatformDoors$Side.isStale()Z -/
def pm_c27 : pm_Cd := [
  [(0, .aload_n 0, 1, []), (1, .invokevirtual 118, 4, [0, 7, 4, 25, 5, 25]), (4, .istore_n 1, 5, []), (5, .iload_n 1, 6, []), (6, .bipush (-2), 8, []), (8, .if_icmp .eq 9, 11, [17]), (11, .iload_n 1, 12, []), (12, .bipush 75, 14, []), (14, .if_icmp .le 7, 17, [21])],
  [(17, .iconst 1, 18, []), (18, .goto 4, 21, [22]), (21, .iconst 0, 22, []), (22, .ireturn, 23, [])]]
def pm_m27 : pm_Mt := (⟨"PlatformDoors$Side", "isStale", "()Z"⟩, prog_6_method_14_code, 2, (some .boolean), pm_c27, 2)
/-- 28: PlatformDoors$Side.countToldLocked()I -/
def pm_c28 : pm_Cd := [
  [(0, .iconst 0, 1, []), (1, .istore_n 1, 2, []), (2, .iconst 0, 3, []), (3, .istore_n 2, 4, []), (4, .iload_n 2, 5, []), (5, .bipush 8, 7, []), (7, .if_icmp .ge 24, 10, [31]), (10, .iload_n 1, 11, []), (11, .aload_n 0, 12, []), (12, .getfield 11, 15, [0, 2, 4, 5]), (15, .iload_n 2, 16, [])],
  [(16, .aaload, 17, []), (17, .invokevirtual 121, 20, [0, 2, 2, 11]), (20, .invokestatic 124, 23, [1, 72]), (23, .iadd, 24, []), (24, .istore_n 1, 25, []), (25, .iinc 2 1, 28, []), (28, .goto (-24), 31, [4]), (31, .iload_n 1, 32, [])],
  [(32, .ireturn, 33, [])]]
def pm_m28 : pm_Mt := (⟨"PlatformDoors$Side", "countToldLocked", "()I"⟩, prog_6_method_15_code, 3, (some .int), pm_c28, 1)
/-- 29: PlatformDoors$Side.isolatedBits()I -/
def pm_c29 : pm_Cd := [
  [(0, .iconst 0, 1, []), (1, .istore_n 1, 2, []), (2, .iconst 0, 3, []), (3, .istore_n 2, 4, []), (4, .iload_n 2, 5, []), (5, .bipush 8, 7, []), (7, .if_icmp .ge 26, 10, [33]), (10, .iload_n 1, 11, []), (11, .aload_n 0, 12, []), (12, .getfield 11, 15, [0, 2, 4, 5]), (15, .iload_n 2, 16, [])],
  [(16, .aaload, 17, []), (17, .getfield 128, 20, [6, 1, 2]), (20, .invokestatic 124, 23, [1, 72]), (23, .iload_n 2, 24, []), (24, .ishl, 25, []), (25, .ior, 26, []), (26, .istore_n 1, 27, []), (27, .iinc 2 1, 30, []), (30, .goto (-26), 33, [4])],
  [(33, .iload_n 1, 34, []), (34, .ireturn, 35, [])]]
def pm_m29 : pm_Mt := (⟨"PlatformDoors$Side", "isolatedBits", "()I"⟩, prog_6_method_16_code, 3, (some .int), pm_c29, 1)
/-- 30: PlatformDoors$Side.part(I)I -/
def pm_c30 : pm_Cd := [
  [(0, .iload_n 1, 1, []), (1, .tableswitch 96 0 7 #[47, 52, 57, 62, 70, 78, 83, 91], 48, [97, 48, 53, 58, 63, 71, 79, 84, 92])],
  [],
  [],
  [(48, .aload_n 0, 49, []), (49, .getfield 42, 52, [4, 0, 4, 5]), (52, .ireturn, 53, []), (53, .aload_n 0, 54, []), (54, .getfield 45, 57, [5, 0, 4, 5]), (57, .ireturn, 58, []), (58, .aload_n 0, 59, []), (59, .invokevirtual 118, 62, [0, 7, 4, 25, 5, 25]), (62, .ireturn, 63, []), (63, .aload_n 0, 64, [])],
  [(64, .getfield 20, 67, [1, 2, 4, 5]), (67, .getfield 88, 70, [0, 0, 1]), (70, .ireturn, 71, []), (71, .aload_n 0, 72, []), (72, .getfield 24, 75, [2, 2, 4, 5]), (75, .getfield 36, 78, [1, 0, 3]), (78, .ireturn, 79, []), (79, .aload_n 0, 80, [])],
  [(80, .invokevirtual 131, 83, [0, 7, 4, 28, 5, 28]), (83, .ireturn, 84, []), (84, .aload_n 0, 85, []), (85, .invokevirtual 101, 88, [0, 7, 4, 44, 5, 36]), (88, .invokestatic 124, 91, [1, 72]), (91, .ireturn, 92, []), (92, .aload_n 0, 93, []), (93, .getfield 54, 96, [8, 0, 4, 5])],
  [(96, .ireturn, 97, []), (97, .iconst (-1), 98, []), (98, .ireturn, 99, [])]]
def pm_m30 : pm_Mt := (⟨"PlatformDoors$Side", "part", "(I)I"⟩, prog_6_method_17_code, 2, (some .int), pm_c30, 1)
/-- 31: PlatformDoors$Train.<init>(LPlatformDoors$Line;LPlatformDoors$Line;)V -/
def pm_c31 : pm_Cd := [
  [(0, .aload_n 0, 1, []), (1, .aload_n 1, 2, []), (2, .aload_n 2, 3, []), (3, .invokespecial 3, 6, [2, 19]), (6, .return_, 7, [])]]
def pm_m31 : pm_Mt := (⟨"PlatformDoors$Train", "<init>", "(LPlatformDoors$Line;LPlatformDoors$Line;)V"⟩, prog_7_method_1_code, 3, none, pm_c31, 0)
/-- 32: PlatformDoors$Train.restartTrain()V -/
def pm_c32 : pm_Cd := [
  [(0, .aload_n 0, 1, []), (1, .invokevirtual 9, 4, [0, 5, 5, 20]), (4, .aload_n 0, 5, []), (5, .iconst 0, 6, []), (6, .putfield 15, 9, [9, 0, 0, 5]), (9, .aload_n 0, 10, []), (10, .iconst 1, 11, []), (11, .putfield 19, 14, [10, 0, 0, 5]), (14, .aload_n 0, 15, []), (15, .iconst 0, 16, [])],
  [(16, .putfield 22, 19, [11, 0, 0, 5]), (19, .aload_n 0, 20, []), (20, .iconst 0, 21, []), (21, .putfield 25, 24, [12, 0, 0, 5]), (24, .aload_n 0, 25, []), (25, .iconst 0, 26, []), (26, .putfield 28, 29, [13, 1, 0, 5]), (29, .return_, 30, [])]]
def pm_m32 : pm_Mt := (⟨"PlatformDoors$Train", "restartTrain", "()V"⟩, prog_7_method_2_code, 1, none, pm_c32, 0)
/-- 33: PlatformDoors$Train.look()V -/
def pm_c33 : pm_Cd := [
  [(0, .aload_n 0, 1, []), (1, .aload_n 0, 2, []), (2, .getfield 19, 5, [10, 0, 5]), (5, .ifCond .ne 12, 8, [17]), (8, .aload_n 0, 9, []), (9, .getfield 25, 12, [12, 0, 5]), (12, .iconst 1, 13, []), (13, .iadd, 14, []), (14, .goto 4, 17, [18])],
  [(17, .iconst 0, 18, []), (18, .putfield 25, 21, [12, 0, 0, 5]), (21, .return_, 22, [])]]
def pm_m33 : pm_Mt := (⟨"PlatformDoors$Train", "look", "()V"⟩, prog_7_method_3_code, 1, none, pm_c33, 0)
/-- 34: PlatformDoors$Train.mayOpen()Z -/
def pm_c34 : pm_Cd := [
  [(0, .aload_n 0, 1, []), (1, .getfield 28, 4, [13, 1, 5]), (4, .ifCond .eq 32, 7, [36]), (7, .aload_n 0, 8, []), (8, .invokevirtual 32, 11, [0, 5, 5, 38]), (11, .ifCond .eq 25, 14, [36]), (14, .aload_n 0, 15, []), (15, .invokevirtual 36, 18, [0, 5, 5, 26])],
  [(18, .ifCond .eq 18, 21, [36]), (21, .aload_n 0, 22, []), (22, .getfield 39, 25, [1, 2, 5]), (25, .getfield 43, 28, [2, 0, 1]), (28, .iconst 1, 29, []), (29, .if_icmp .ne 7, 32, [36])],
  [(32, .iconst 1, 33, []), (33, .goto 4, 36, [37]), (36, .iconst 0, 37, []), (37, .ireturn, 38, [])]]
def pm_m34 : pm_Mt := (⟨"PlatformDoors$Train", "mayOpen", "()Z"⟩, prog_7_method_4_code, 1, (some .boolean), pm_c34, 2)
/-- 35: PlatformDoors$Train.mustWarn()Z -/
def pm_c35 : pm_Cd := [
  [(0, .aload_n 0, 1, []), (1, .getfield 28, 4, [13, 1, 5]), (4, .ifCond .eq 17, 7, [21]), (7, .aload_n 0, 8, []), (8, .invokevirtual 32, 11, [0, 5, 5, 38]), (11, .ifCond .eq 10, 14, [21]), (14, .aload_n 0, 15, []), (15, .invokevirtual 48, 18, [0, 5, 5, 27])],
  [(18, .ifCond .eq 7, 21, [25]), (21, .iconst 1, 22, []), (22, .goto 4, 25, [26]), (25, .iconst 0, 26, []), (26, .ireturn, 27, [])]]
def pm_m35 : pm_Mt := (⟨"PlatformDoors$Train", "mustWarn", "()Z"⟩, prog_7_method_5_code, 1, (some .boolean), pm_c35, 2)
/-- 36: PlatformDoors$Train.isAssured()Z -/
def pm_c36 : pm_Cd := [
  [(0, .aload_n 0, 1, []), (1, .invokevirtual 32, 4, [0, 5, 5, 38]), (4, .ireturn, 5, [])]]
def pm_m36 : pm_Mt := (⟨"PlatformDoors$Train", "isAssured", "()Z"⟩, prog_7_method_6_code, 1, (some .boolean), pm_c36, 2)
/-- 37: PlatformDoors$Train.commandsToOpen()Z -/
def pm_c37 : pm_Cd := [
  [(0, .aload_n 0, 1, []), (1, .getfield 28, 4, [13, 1, 5]), (4, .ireturn, 5, [])]]
def pm_m37 : pm_Mt := (⟨"PlatformDoors$Train", "commandsToOpen", "()Z"⟩, prog_7_method_7_code, 1, (some .boolean), pm_c37, 2)
/-- 38: PlatformDoors$Train.isReady()Z -/
def pm_c38 : pm_Cd := [
  [(0, .aload_n 0, 1, []), (1, .getfield 25, 4, [12, 0, 5]), (4, .bipush 20, 6, []), (6, .if_icmp .lt 28, 9, [34]), (9, .aload_n 0, 10, []), (10, .getfield 15, 13, [9, 0, 5]), (13, .aload_n 0, 14, []), (14, .getfield 22, 17, [11, 0, 5])],
  [(17, .iadd, 18, []), (18, .sipush (-250), 21, []), (21, .sipush 250, 24, []), (24, .invokestatic 51, 27, [3, 71]), (27, .ifCond .eq 7, 30, [34]), (30, .iconst 1, 31, []), (31, .goto 4, 34, [35])],
  [(34, .iconst 0, 35, []), (35, .ireturn, 36, [])]]
def pm_m38 : pm_Mt := (⟨"PlatformDoors$Train", "isReady", "()Z"⟩, prog_7_method_8_code, 1, (some .boolean), pm_c38, 2)
/-- 39: PlatformDoors$Train.standsAtMark()Z -/
def pm_c39 : pm_Cd := [
  [(0, .aload_n 0, 1, []), (1, .getfield 19, 4, [10, 0, 5]), (4, .ifCond .ne 23, 7, [27]), (7, .aload_n 0, 8, []), (8, .getfield 15, 11, [9, 0, 5]), (11, .sipush (-350), 14, []), (14, .sipush 350, 17, [])],
  [(17, .invokestatic 51, 20, [3, 71]), (20, .ifCond .eq 7, 23, [27]), (23, .iconst 1, 24, []), (24, .goto 4, 27, [28]), (27, .iconst 0, 28, []), (28, .ireturn, 29, [])]]
def pm_m39 : pm_Mt := (⟨"PlatformDoors$Train", "standsAtMark", "()Z"⟩, prog_7_method_9_code, 1, (some .boolean), pm_c39, 2)
/-- 40: PlatformDoors$Platform.<init>(LPlatformDoors$Line;LPlatformDoors$Line;)V -/
def pm_c40 : pm_Cd := [
  [(0, .aload_n 0, 1, []), (1, .aload_n 1, 2, []), (2, .aload_n 2, 3, []), (3, .invokespecial 3, 6, [2, 19]), (6, .return_, 7, [])]]
def pm_m40 : pm_Mt := (⟨"PlatformDoors$Platform", "<init>", "(LPlatformDoors$Line;LPlatformDoors$Line;)V"⟩, prog_5_method_1_code, 3, none, pm_c40, 0)
/-- 41: PlatformDoors$Platform.look()V -/
def pm_c41 : pm_Cd := [
  [(0, .return_, 1, [])]]
def pm_m41 : pm_Mt := (⟨"PlatformDoors$Platform", "look", "()V"⟩, prog_5_method_2_code, 1, none, pm_c41, 0)
/-- 42: PlatformDoors$Platform.mayOpen()Z -/
def pm_c42 : pm_Cd := [
  [(0, .aload_n 0, 1, []), (1, .invokevirtual 9, 4, [0, 4, 4, 26]), (4, .ifCond .eq 27, 7, [31]), (7, .aload_n 0, 8, []), (8, .getfield 15, 11, [1, 2, 4]), (11, .getfield 19, 14, [4, 1, 1]), (14, .ifCond .eq 17, 17, [31])],
  [(17, .aload_n 0, 18, []), (18, .getfield 15, 21, [1, 2, 4]), (21, .getfield 25, 24, [5, 1, 1]), (24, .ifCond .eq 7, 27, [31]), (27, .iconst 1, 28, []), (28, .goto 4, 31, [32]), (31, .iconst 0, 32, [])],
  [(32, .ireturn, 33, [])]]
def pm_m42 : pm_Mt := (⟨"PlatformDoors$Platform", "mayOpen", "()Z"⟩, prog_5_method_3_code, 1, (some .boolean), pm_c42, 2)
/-- 43: PlatformDoors$Platform.mustWarn()Z -/
def pm_c43 : pm_Cd := [
  [(0, .aload_n 0, 1, []), (1, .invokevirtual 28, 4, [0, 4, 4, 27]), (4, .ifCond .ne 23, 7, [27]), (7, .aload_n 0, 8, []), (8, .getfield 15, 11, [1, 2, 4]), (11, .getfield 19, 14, [4, 1, 1]), (14, .ifCond .eq 13, 17, [27])],
  [(17, .aload_n 0, 18, []), (18, .getfield 15, 21, [1, 2, 4]), (21, .getfield 25, 24, [5, 1, 1]), (24, .ifCond .ne 7, 27, [31]), (27, .iconst 1, 28, []), (28, .goto 4, 31, [32]), (31, .iconst 0, 32, [])],
  [(32, .ireturn, 33, [])]]
def pm_m43 : pm_Mt := (⟨"PlatformDoors$Platform", "mustWarn", "()Z"⟩, prog_5_method_4_code, 1, (some .boolean), pm_c43, 2)
/-- 44: PlatformDoors$Platform.isAssured()Z -/
def pm_c44 : pm_Cd := [
  [(0, .aload_n 0, 1, []), (1, .invokevirtual 31, 4, [0, 4, 4, 28]), (4, .bipush 8, 6, []), (6, .if_icmp .ne 7, 9, [13]), (9, .iconst 1, 10, []), (10, .goto 4, 13, [14]), (13, .iconst 0, 14, []), (14, .ireturn, 15, [])]]
def pm_m44 : pm_Mt := (⟨"PlatformDoors$Platform", "isAssured", "()Z"⟩, prog_5_method_5_code, 1, (some .boolean), pm_c44, 2)
/-- 45: PlatformDoors$Platform.commandsToOpen()Z -/
def pm_c45 : pm_Cd := [
  [(0, .iconst 0, 1, []), (1, .ireturn, 2, [])]]
def pm_m45 : pm_Mt := (⟨"PlatformDoors$Platform", "commandsToOpen", "()Z"⟩, prog_5_method_6_code, 1, (some .boolean), pm_c45, 2)
/-- 46: PlatformDoors.<init>()V -/
def pm_c46 : pm_Cd := [
  [(0, .aload_n 0, 1, []), (1, .invokespecial 1, 4, []), (4, .new 7, 7, [3]), (7, .dup, 8, []), (8, .invokespecial 9, 11, [0, 14]), (11, .astore_n 1, 12, []), (12, .new 7, 15, [3]), (15, .dup, 16, [])],
  [(16, .invokespecial 9, 19, [0, 14]), (19, .astore_n 2, 20, []), (20, .aload_n 0, 21, []), (21, .new 10, 24, [5]), (24, .dup, 25, []), (25, .aload_n 1, 26, []), (26, .aload_n 2, 27, []), (27, .invokespecial 12, 30, [2, 31]), (30, .putfield 15, 33, [0, 2, 0, 0])],
  [(33, .aload_n 0, 34, []), (34, .new 21, 37, [4]), (37, .dup, 38, []), (38, .aload_n 2, 39, []), (39, .aload_n 1, 40, []), (40, .invokespecial 23, 43, [2, 40]), (43, .putfield 24, 46, [1, 2, 0, 0]), (46, .aload_n 0, 47, []), (47, .invokevirtual 28, 50, [0, 0, 0, 64])],
  [(50, .return_, 51, [])]]
def pm_m46 : pm_Mt := (⟨"PlatformDoors", "<init>", "()V"⟩, prog_1_method_1_code, 3, none, pm_c46, 0)
/-- 47: PlatformDoors.begin()V -/
def pm_c47 : pm_Cd := [
  [(0, .aload_n 0, 1, []), (1, .invokevirtual 28, 4, [0, 0, 0, 64]), (4, .return_, 5, [])]]
def pm_m47 : pm_Mt := (⟨"PlatformDoors", "begin", "()V"⟩, prog_1_method_2_code, 1, none, pm_c47, 0)
/-- 48: PlatformDoors.step(II)I -/
def pm_c48 : pm_Cd := [
  [(0, .iload_n 1, 1, []), (1, .invokestatic 31, 4, [1, 69]), (4, .ifCond .eq 14, 7, [18]), (7, .iload_n 2, 8, []), (8, .iconst 1, 9, []), (9, .sipush 500, 12, []), (12, .invokestatic 35, 15, [3, 71]), (15, .ifCond .ne 5, 18, [20])],
  [(18, .iconst (-1), 19, []), (19, .ireturn, 20, []), (20, .aload_n 0, 21, []), (21, .iload_n 1, 22, []), (22, .invokevirtual 39, 25, [1, 0, 0, 67]), (25, .astore_n 3, 26, []), (26, .iconst 0, 27, []), (27, .istore 4, 29, []), (29, .iload 4, 31, []), (31, .iload_n 2, 32, [])],
  [(32, .if_icmp .ge 28, 35, [60]), (35, .aload_n 3, 36, []), (36, .invokevirtual 43, 39, [0, 7, 4, 21, 5, 21]), (39, .iload_n 1, 40, []), (40, .ifCond .ne 10, 43, [50]), (43, .aload_n 0, 44, []), (44, .invokevirtual 48, 47, [0, 0, 0, 65]), (47, .goto 7, 50, [54])],
  [(50, .aload_n 0, 51, []), (51, .invokevirtual 51, 54, [0, 0, 0, 66]), (54, .iinc 4 1, 57, []), (57, .goto (-28), 60, [29]), (60, .aload_n 3, 61, []), (61, .getfield 54, 64, [4, 0, 4, 5])],
  [(64, .ireturn, 65, [])]]
def pm_m48 : pm_Mt := (⟨"PlatformDoors", "step", "(II)I"⟩, prog_1_method_3_code, 5, (some .int), pm_c48, 1)
/-- 49: PlatformDoors.arrive(II)I -/
def pm_c49 : pm_Cd := [
  [(0, .iload_n 1, 1, []), (1, .ldc 58, 3, [2000000, 1]), (3, .ldc 59, 5, [2000000, 0]), (5, .invokestatic 35, 8, [3, 71]), (8, .ifCond .eq 14, 11, [22]), (11, .iload_n 2, 12, []), (12, .iconst 0, 13, []), (13, .sipush 30000, 16, [])],
  [(16, .invokestatic 35, 19, [3, 71]), (19, .ifCond .ne 5, 22, [24]), (22, .iconst (-1), 23, []), (23, .ireturn, 24, []), (24, .aload_n 0, 25, []), (25, .getfield 15, 28, [0, 2, 0]), (28, .iload_n 1, 29, []), (29, .putfield 60, 32, [9, 0, 0, 5])],
  [(32, .aload_n 0, 33, []), (33, .getfield 15, 36, [0, 2, 0]), (36, .iload_n 2, 37, []), (37, .putfield 63, 40, [10, 0, 0, 5]), (40, .iconst 0, 41, []), (41, .ireturn, 42, [])]]
def pm_m49 : pm_Mt := (⟨"PlatformDoors", "arrive", "(II)I"⟩, prog_1_method_4_code, 3, (some .int), pm_c49, 1)
/-- 50: PlatformDoors.error(I)I -/
def pm_c50 : pm_Cd := [
  [(0, .iload_n 1, 1, []), (1, .sipush (-1000), 4, []), (4, .sipush 1000, 7, []), (7, .invokestatic 35, 10, [3, 71]), (10, .ifCond .ne 7, 13, [17]), (13, .sipush (-2000), 16, [])],
  [(16, .ireturn, 17, []), (17, .aload_n 0, 18, []), (18, .getfield 15, 21, [0, 2, 0]), (21, .getfield 66, 24, [11, 0, 5]), (24, .istore_n 2, 25, []), (25, .aload_n 0, 26, []), (26, .getfield 15, 29, [0, 2, 0]), (29, .iload_n 1, 30, []), (30, .putfield 66, 33, [11, 0, 0, 5])],
  [(33, .iload_n 2, 34, []), (34, .ireturn, 35, [])]]
def pm_m50 : pm_Mt := (⟨"PlatformDoors", "error", "(I)I"⟩, prog_1_method_5_code, 3, (some .int), pm_c50, 1)
/-- 51: PlatformDoors.command(Z)Z -/
def pm_c51 : pm_Cd := [
  [(0, .aload_n 0, 1, []), (1, .getfield 15, 4, [0, 2, 0]), (4, .getfield 69, 7, [13, 1, 5]), (7, .istore_n 2, 8, []), (8, .aload_n 0, 9, []), (9, .getfield 15, 12, [0, 2, 0]), (12, .iload_n 1, 13, []), (13, .putfield 69, 16, [13, 1, 0, 5])],
  [(16, .iload_n 2, 17, []), (17, .ireturn, 18, [])]]
def pm_m51 : pm_Mt := (⟨"PlatformDoors", "command", "(Z)Z"⟩, prog_1_method_6_code, 3, (some .boolean), pm_c51, 2)
/-- 52: PlatformDoors.isolate(IIZ)I -/
def pm_c52 : pm_Cd := [
  [(0, .iload_n 1, 1, []), (1, .invokestatic 31, 4, [1, 69]), (4, .ifCond .eq 10, 7, [14]), (7, .iload_n 2, 8, []), (8, .invokestatic 73, 11, [1, 70]), (11, .ifCond .ne 5, 14, [16]), (14, .iconst (-1), 15, []), (15, .ireturn, 16, [])],
  [(16, .aload_n 0, 17, []), (17, .iload_n 1, 18, []), (18, .invokevirtual 39, 21, [1, 0, 0, 67]), (21, .getfield 76, 24, [0, 2, 4, 5]), (24, .iload_n 2, 25, []), (25, .aaload, 26, []), (26, .astore 4, 28, []), (28, .aload 4, 30, []), (30, .getfield 80, 33, [6, 1, 2])],
  [(33, .invokestatic 85, 36, [1, 72]), (36, .istore 5, 38, []), (38, .aload 4, 40, []), (40, .iload_n 3, 41, []), (41, .putfield 80, 44, [6, 1, 0, 2]), (44, .iload 5, 46, []), (46, .ireturn, 47, [])]]
def pm_m52 : pm_Mt := (⟨"PlatformDoors", "isolate", "(IIZ)I"⟩, prog_1_method_7_code, 6, (some .int), pm_c52, 1)
/-- 53: PlatformDoors.release(IIZ)I -/
def pm_c53 : pm_Cd := [
  [(0, .iload_n 1, 1, []), (1, .invokestatic 31, 4, [1, 69]), (4, .ifCond .eq 10, 7, [14]), (7, .iload_n 2, 8, []), (8, .invokestatic 73, 11, [1, 70]), (11, .ifCond .ne 5, 14, [16]), (14, .iconst (-1), 15, []), (15, .ireturn, 16, [])],
  [(16, .aload_n 0, 17, []), (17, .iload_n 1, 18, []), (18, .invokevirtual 39, 21, [1, 0, 0, 67]), (21, .getfield 76, 24, [0, 2, 4, 5]), (24, .iload_n 2, 25, []), (25, .aaload, 26, []), (26, .astore 4, 28, []), (28, .aload 4, 30, []), (30, .getfield 89, 33, [7, 1, 2])],
  [(33, .invokestatic 85, 36, [1, 72]), (36, .istore 5, 38, []), (38, .aload 4, 40, []), (40, .iload_n 3, 41, []), (41, .putfield 89, 44, [7, 1, 0, 2]), (44, .iload 5, 46, []), (46, .ireturn, 47, [])]]
def pm_m53 : pm_Mt := (⟨"PlatformDoors", "release", "(IIZ)I"⟩, prog_1_method_8_code, 6, (some .int), pm_c53, 1)
/-- 54: PlatformDoors.obstruct(III)I -/
def pm_c54 : pm_Cd := [
  [(0, .iload_n 1, 1, []), (1, .invokestatic 31, 4, [1, 69]), (4, .ifCond .eq 21, 7, [25]), (7, .iload_n 2, 8, []), (8, .invokestatic 73, 11, [1, 70]), (11, .ifCond .eq 14, 14, [25]), (14, .iload_n 3, 15, []), (15, .iconst 0, 16, [])],
  [(16, .sipush 1000, 19, []), (19, .invokestatic 35, 22, [3, 71]), (22, .ifCond .ne 5, 25, [27]), (25, .iconst (-1), 26, []), (26, .ireturn, 27, []), (27, .aload_n 0, 28, []), (28, .iload_n 1, 29, []), (29, .invokevirtual 39, 32, [1, 0, 0, 67])],
  [(32, .getfield 76, 35, [0, 2, 4, 5]), (35, .iload_n 2, 36, []), (36, .aaload, 37, []), (37, .astore 4, 39, []), (39, .aload 4, 41, []), (41, .getfield 92, 44, [4, 0, 2]), (44, .istore 5, 46, []), (46, .aload 4, 48, [])],
  [(48, .iload_n 3, 49, []), (49, .putfield 92, 52, [4, 0, 0, 2]), (52, .iload 5, 54, []), (54, .ireturn, 55, [])]]
def pm_m54 : pm_Mt := (⟨"PlatformDoors", "obstruct", "(III)I"⟩, prog_1_method_9_code, 6, (some .int), pm_c54, 1)
/-- 55: PlatformDoors.contact(IIII)I -/
def pm_c55 : pm_Cd := [
  [(0, .iload_n 1, 1, []), (1, .invokestatic 31, 4, [1, 69]), (4, .ifCond .eq 29, 7, [33]), (7, .iload_n 2, 8, []), (8, .invokestatic 73, 11, [1, 70]), (11, .ifCond .eq 22, 14, [33]), (14, .iload_n 3, 15, []), (15, .iconst 0, 16, [])],
  [(16, .iconst 1, 17, []), (17, .invokestatic 35, 20, [3, 71]), (20, .ifCond .eq 13, 23, [33]), (23, .iload 4, 25, []), (25, .iconst 0, 26, []), (26, .iconst 2, 27, []), (27, .invokestatic 35, 30, [3, 71]), (30, .ifCond .ne 5, 33, [35])],
  [(33, .iconst (-1), 34, []), (34, .ireturn, 35, []), (35, .aload_n 0, 36, []), (36, .iload_n 1, 37, []), (37, .invokevirtual 39, 40, [1, 0, 0, 67]), (40, .getfield 76, 43, [0, 2, 4, 5]), (43, .iload_n 2, 44, []), (44, .aaload, 45, []), (45, .astore 5, 47, []), (47, .aload 5, 49, [])],
  [(49, .getfield 95, 52, [0, 2, 2]), (52, .iload_n 3, 53, []), (53, .iaload, 54, []), (54, .istore 6, 56, []), (56, .aload 5, 58, []), (58, .getfield 95, 61, [0, 2, 2]), (61, .iload_n 3, 62, []), (62, .iload 4, 64, [])],
  [(64, .iastore, 65, []), (65, .iload 6, 67, []), (67, .ireturn, 68, [])]]
def pm_m55 : pm_Mt := (⟨"PlatformDoors", "contact", "(IIII)I"⟩, prog_1_method_10_code, 7, (some .int), pm_c55, 1)
/-- 56: PlatformDoors.deliver(II)I -/
def pm_c56 : pm_Cd := [
  [(0, .aload_n 0, 1, []), (1, .iload_n 1, 2, []), (2, .iload_n 2, 3, []), (3, .invokevirtual 99, 6, [2, 0, 0, 68]), (6, .ifCond .ne 5, 9, [11]), (9, .iconst (-1), 10, []), (10, .ireturn, 11, []), (11, .aload_n 0, 12, []), (12, .iload_n 1, 13, []), (13, .invokevirtual 39, 16, [1, 0, 0, 67])],
  [(16, .astore_n 3, 17, []), (17, .aload_n 3, 18, []), (18, .aload_n 3, 19, []), (19, .getfield 103, 22, [2, 2, 4, 5]), (22, .getfield 107, 25, [0, 2, 3]), (25, .iload_n 2, 26, []), (26, .aaload, 27, []), (27, .invokevirtual 111, 30, [1, 7, 4, 24, 5, 24]), (30, .istore 4, 32, [])],
  [(32, .aload_n 3, 33, []), (33, .getfield 103, 36, [2, 2, 4, 5]), (36, .iload_n 2, 37, []), (37, .invokevirtual 115, 40, [1, 3, 3, 17]), (40, .iload 4, 42, []), (42, .invokestatic 85, 45, [1, 72]), (45, .ireturn, 46, [])]]
def pm_m56 : pm_Mt := (⟨"PlatformDoors", "deliver", "(II)I"⟩, prog_1_method_11_code, 5, (some .int), pm_c56, 1)
/-- 57: PlatformDoors.drop(II)I -/
def pm_c57 : pm_Cd := [
  [(0, .aload_n 0, 1, []), (1, .iload_n 1, 2, []), (2, .iload_n 2, 3, []), (3, .invokevirtual 99, 6, [2, 0, 0, 68]), (6, .ifCond .ne 5, 9, [11]), (9, .iconst (-1), 10, []), (10, .ireturn, 11, []), (11, .aload_n 0, 12, []), (12, .iload_n 1, 13, []), (13, .invokevirtual 39, 16, [1, 0, 0, 67])],
  [(16, .getfield 103, 19, [2, 2, 4, 5]), (19, .astore_n 3, 20, []), (20, .aload_n 3, 21, []), (21, .iload_n 2, 22, []), (22, .invokevirtual 115, 25, [1, 3, 3, 17]), (25, .aload_n 3, 26, []), (26, .getfield 119, 29, [1, 0, 3]), (29, .ireturn, 30, [])]]
def pm_m57 : pm_Mt := (⟨"PlatformDoors", "drop", "(II)I"⟩, prog_1_method_12_code, 4, (some .int), pm_c57, 1)
/-- 58: PlatformDoors.twin(II)I -/
def pm_c58 : pm_Cd := [
  [(0, .aload_n 0, 1, []), (1, .iload_n 1, 2, []), (2, .iload_n 2, 3, []), (3, .invokevirtual 99, 6, [2, 0, 0, 68]), (6, .ifCond .ne 5, 9, [11]), (9, .iconst (-1), 10, []), (10, .ireturn, 11, []), (11, .aload_n 0, 12, []), (12, .iload_n 1, 13, []), (13, .invokevirtual 39, 16, [1, 0, 0, 67])],
  [(16, .getfield 103, 19, [2, 2, 4, 5]), (19, .astore_n 3, 20, []), (20, .aload_n 3, 21, []), (21, .invokevirtual 122, 24, [0, 3, 3, 15]), (24, .ifCond .eq 5, 27, [29]), (27, .iconst (-1), 28, []), (28, .ireturn, 29, []), (29, .aload_n 3, 30, []), (30, .iload_n 2, 31, []), (31, .invokevirtual 126, 34, [1, 3, 3, 18])],
  [(34, .aload_n 3, 35, []), (35, .getfield 119, 38, [1, 0, 3]), (38, .ireturn, 39, [])]]
def pm_m58 : pm_Mt := (⟨"PlatformDoors", "twin", "(II)I"⟩, prog_1_method_13_code, 4, (some .int), pm_c58, 1)
/-- 59: PlatformDoors.frame(III)I -/
def pm_c59 : pm_Cd := [
  [(0, .aload_n 0, 1, []), (1, .iload_n 1, 2, []), (2, .iload_n 2, 3, []), (3, .invokevirtual 99, 6, [2, 0, 0, 68]), (6, .ifCond .eq 23, 9, [29]), (9, .aload_n 0, 10, []), (10, .iload_n 1, 11, []), (11, .invokevirtual 39, 14, [1, 0, 0, 67]), (14, .getfield 103, 17, [2, 2, 4, 5])],
  [(17, .getfield 107, 20, [0, 2, 3]), (20, .iload_n 2, 21, []), (21, .aaload, 22, []), (22, .iload_n 3, 23, []), (23, .invokevirtual 129, 26, [1, 1, 1, 4]), (26, .goto 4, 29, [30]), (29, .iconst (-1), 30, []), (30, .ireturn, 31, [])]]
def pm_m59 : pm_Mt := (⟨"PlatformDoors", "frame", "(III)I"⟩, prog_1_method_14_code, 4, (some .int), pm_c59, 1)
/-- 60: PlatformDoors.leaf(III)I -/
def pm_c60 : pm_Cd := [
  [(0, .iload_n 1, 1, []), (1, .invokestatic 31, 4, [1, 69]), (4, .ifCond .eq 27, 7, [31]), (7, .iload_n 2, 8, []), (8, .invokestatic 73, 11, [1, 70]), (11, .ifCond .eq 20, 14, [31]), (14, .aload_n 0, 15, []), (15, .iload_n 1, 16, [])],
  [(16, .invokevirtual 39, 19, [1, 0, 0, 67]), (19, .getfield 76, 22, [0, 2, 4, 5]), (22, .iload_n 2, 23, []), (23, .aaload, 24, []), (24, .iload_n 3, 25, []), (25, .invokevirtual 135, 28, [1, 2, 2, 13]), (28, .goto 4, 31, [32]), (31, .iconst (-1), 32, [])],
  [(32, .ireturn, 33, [])]]
def pm_m60 : pm_Mt := (⟨"PlatformDoors", "leaf", "(III)I"⟩, prog_1_method_15_code, 4, (some .int), pm_c60, 1)
/-- 61: PlatformDoors.told(II)I -/
def pm_c61 : pm_Cd := [
  [(0, .iload_n 1, 1, []), (1, .invokestatic 31, 4, [1, 69]), (4, .ifCond .eq 15, 7, [19]), (7, .aload_n 0, 8, []), (8, .iload_n 1, 9, []), (9, .invokevirtual 39, 12, [1, 0, 0, 67]), (12, .iload_n 2, 13, []), (13, .invokevirtual 136, 16, [1, 7, 4, 30, 5, 30])],
  [(16, .goto 4, 19, [20]), (19, .iconst (-1), 20, []), (20, .ireturn, 21, [])]]
def pm_m61 : pm_Mt := (⟨"PlatformDoors", "told", "(II)I"⟩, prog_1_method_16_code, 3, (some .int), pm_c61, 1)
/-- 62: PlatformDoors.mayGo()Z -/
def pm_c62 : pm_Cd := [
  [(0, .aload_n 0, 1, []), (1, .getfield 15, 4, [0, 2, 0]), (4, .invokevirtual 137, 7, [0, 5, 5, 26]), (7, .ifCond .eq 42, 10, [49]), (10, .aload_n 0, 11, []), (11, .getfield 15, 14, [0, 2, 0]), (14, .getfield 140, 17, [1, 2, 5])],
  [(17, .getfield 144, 20, [4, 1, 1]), (20, .ifCond .eq 29, 23, [49]), (23, .aload_n 0, 24, []), (24, .getfield 15, 27, [0, 2, 0]), (27, .getfield 147, 30, [5, 0, 5]), (30, .ifCond .ne 19, 33, [49])],
  [(33, .aload_n 0, 34, []), (34, .getfield 15, 37, [0, 2, 0]), (37, .invokevirtual 150, 40, [0, 5, 5, 28]), (40, .bipush 8, 42, []), (42, .if_icmp .ne 7, 45, [49]), (45, .iconst 1, 46, []), (46, .goto 4, 49, [50])],
  [(49, .iconst 0, 50, []), (50, .ireturn, 51, [])]]
def pm_m62 : pm_Mt := (⟨"PlatformDoors", "mayGo", "()Z"⟩, prog_1_method_17_code, 1, (some .boolean), pm_c62, 2)
/-- 63: PlatformDoors.breaches()I -/
def pm_c63 : pm_Cd := [
  [(0, .aload_n 0, 1, []), (1, .getfield 154, 4, [3, 0, 0]), (4, .ireturn, 5, [])]]
def pm_m63 : pm_Mt := (⟨"PlatformDoors", "breaches", "()I"⟩, prog_1_method_18_code, 1, (some .int), pm_c63, 1)
/-- 64: PlatformDoors.restart()V -/
def pm_c64 : pm_Cd := [
  [(0, .aload_n 0, 1, []), (1, .getfield 15, 4, [0, 2, 0]), (4, .invokevirtual 157, 7, [0, 5, 5, 32]), (7, .aload_n 0, 8, []), (8, .getfield 24, 11, [1, 2, 0]), (11, .invokevirtual 160, 14, [0, 4, 4, 20]), (14, .aload_n 0, 15, []), (15, .ldc 163, 17, [1000000, 1])],
  [(17, .putfield 164, 20, [2, 0, 0, 0]), (20, .aload_n 0, 21, []), (21, .iconst 0, 22, []), (22, .putfield 154, 25, [3, 0, 0, 0]), (25, .return_, 26, [])]]
def pm_m64 : pm_Mt := (⟨"PlatformDoors", "restart", "()V"⟩, prog_1_method_19_code, 1, none, pm_c64, 0)
/-- 65: PlatformDoors.watchTrain()V -/
def pm_c65 : pm_Cd := [
  [(0, .aload_n 0, 1, []), (1, .getfield 15, 4, [0, 2, 0]), (4, .invokevirtual 167, 7, [0, 5, 5, 39]), (7, .ifCond .eq 14, 10, [21]), (10, .aload_n 0, 11, []), (11, .aload_n 0, 12, []), (12, .getfield 24, 15, [1, 2, 0]), (15, .getfield 170, 18, [4, 0, 4])],
  [(18, .putfield 164, 21, [2, 0, 0, 0]), (21, .return_, 22, [])]]
def pm_m65 : pm_Mt := (⟨"PlatformDoors", "watchTrain", "()V"⟩, prog_1_method_20_code, 1, none, pm_c65, 0)
/-- 66: PlatformDoors.watchPlatform()V -/
def pm_c66 : pm_Cd := [
  [(0, .aload_n 0, 1, []), (1, .getfield 24, 4, [1, 2, 0]), (4, .getfield 171, 7, [7, 0, 4]), (7, .aload_n 0, 8, []), (8, .getfield 24, 11, [1, 2, 0]), (11, .getfield 170, 14, [4, 0, 4]), (14, .if_icmp .ne 30, 17, [44])],
  [(17, .aload_n 0, 18, []), (18, .getfield 164, 21, [2, 0, 0]), (21, .aload_n 0, 22, []), (22, .getfield 24, 25, [1, 2, 0]), (25, .getfield 170, 28, [4, 0, 4]), (28, .bipush 25, 30, []), (30, .isub, 31, []), (31, .if_icmp .ge 13, 34, [44])],
  [(34, .aload_n 0, 35, []), (35, .dup, 36, []), (36, .getfield 154, 39, [3, 0, 0]), (39, .iconst 1, 40, []), (40, .iadd, 41, []), (41, .putfield 154, 44, [3, 0, 0, 0]), (44, .return_, 45, [])]]
def pm_m66 : pm_Mt := (⟨"PlatformDoors", "watchPlatform", "()V"⟩, prog_1_method_21_code, 1, none, pm_c66, 0)
/-- 67: PlatformDoors.sideOf(I)LPlatformDoors$Side; -/
def pm_c67 : pm_Cd := [
  [(0, .iload_n 1, 1, []), (1, .ifCond .ne 10, 4, [11]), (4, .aload_n 0, 5, []), (5, .getfield 15, 8, [0, 2, 0]), (8, .goto 7, 11, [15]), (11, .aload_n 0, 12, []), (12, .getfield 24, 15, [1, 2, 0]), (15, .areturn, 16, [])]]
def pm_m67 : pm_Mt := (⟨"PlatformDoors", "sideOf", "(I)LPlatformDoors$Side;"⟩, prog_1_method_22_code, 2, (some (.object "PlatformDoors$Side")), pm_c67, 3)
/-- 68: PlatformDoors.isUnderWay(II)Z -/
def pm_c68 : pm_Cd := [
  [(0, .iload_n 1, 1, []), (1, .invokestatic 31, 4, [1, 69]), (4, .ifCond .eq 28, 7, [32]), (7, .iload_n 2, 8, []), (8, .iconst 0, 9, []), (9, .aload_n 0, 10, []), (10, .iload_n 1, 11, []), (11, .invokevirtual 39, 14, [1, 0, 0, 67]), (14, .getfield 103, 17, [2, 2, 4, 5])],
  [(17, .getfield 119, 20, [1, 0, 3]), (20, .iconst 1, 21, []), (21, .isub, 22, []), (22, .invokestatic 35, 25, [3, 71]), (25, .ifCond .eq 7, 28, [32]), (28, .iconst 1, 29, []), (29, .goto 4, 32, [33])],
  [(32, .iconst 0, 33, []), (33, .ireturn, 34, [])]]
def pm_m68 : pm_Mt := (⟨"PlatformDoors", "isUnderWay", "(II)Z"⟩, prog_1_method_23_code, 3, (some .boolean), pm_c68, 2)
/-- 69: PlatformDoors.isSide(I)Z -/
def pm_c69 : pm_Cd := [
  [(0, .iload_n 0, 1, []), (1, .iconst 0, 2, []), (2, .iconst 1, 3, []), (3, .invokestatic 35, 6, [3, 71]), (6, .ireturn, 7, [])]]
def pm_m69 : pm_Mt := (⟨"PlatformDoors", "isSide", "(I)Z"⟩, prog_1_method_24_code, 1, (some .boolean), pm_c69, 2)
/-- 70: PlatformDoors.isLeaf(I)Z -/
def pm_c70 : pm_Cd := [
  [(0, .iload_n 0, 1, []), (1, .iconst 0, 2, []), (2, .bipush 7, 4, []), (4, .invokestatic 35, 7, [3, 71]), (7, .ireturn, 8, [])]]
def pm_m70 : pm_Mt := (⟨"PlatformDoors", "isLeaf", "(I)Z"⟩, prog_1_method_25_code, 1, (some .boolean), pm_c70, 2)
/-- 71: PlatformDoors.isWithin(III)Z -/
def pm_c71 : pm_Cd := [
  [(0, .iload_n 0, 1, []), (1, .iload_n 1, 2, []), (2, .if_icmp .lt 12, 5, [14]), (5, .iload_n 0, 6, []), (6, .iload_n 2, 7, []), (7, .if_icmp .gt 7, 10, [14]), (10, .iconst 1, 11, []), (11, .goto 4, 14, [15]), (14, .iconst 0, 15, []), (15, .ireturn, 16, [])]]
def pm_m71 : pm_Mt := (⟨"PlatformDoors", "isWithin", "(III)Z"⟩, prog_1_method_26_code, 3, (some .boolean), pm_c71, 2)
/-- 72: PlatformDoors.asNumber(Z)I -/
def pm_c72 : pm_Cd := [
  [(0, .iload_n 0, 1, []), (1, .ifCond .eq 7, 4, [8]), (4, .iconst 1, 5, []), (5, .goto 4, 8, [9]), (8, .iconst 0, 9, []), (9, .ireturn, 10, [])]]
def pm_m72 : pm_Mt := (⟨"PlatformDoors", "asNumber", "(Z)I"⟩, prog_1_method_27_code, 1, (some .int), pm_c72, 1)
/-- 73: PlatformDoorsModel.<init>()V -/
def pm_c73 : pm_Cd := [
  [(0, .aload_n 0, 1, []), (1, .invokespecial 1, 4, []), (4, .aload_n 0, 5, []), (5, .iconst 2, 6, []), (6, .newarray .int, 8, [0]), (8, .putfield 7, 11, [0, 2, 0, 6]), (11, .aload_n 0, 12, []), (12, .iconst 2, 13, []), (13, .newarray .int, 15, [0]), (15, .putfield 13, 18, [1, 2, 0, 6])],
  [(18, .aload_n 0, 19, []), (19, .iconst 2, 20, []), (20, .newarray .int, 22, [0]), (22, .putfield 16, 25, [2, 2, 0, 6]), (25, .aload_n 0, 26, []), (26, .iconst 2, 27, []), (27, .newarray .int, 29, [0]), (29, .putfield 19, 32, [3, 2, 0, 6])],
  [(32, .aload_n 0, 33, []), (33, .iconst 2, 34, []), (34, .newarray .boolean, 36, [1]), (36, .putfield 22, 39, [4, 2, 0, 6]), (39, .aload_n 0, 40, []), (40, .bipush 12, 42, []), (42, .newarray .int, 44, [0]), (44, .putfield 26, 47, [5, 2, 0, 6]), (47, .aload_n 0, 48, [])],
  [(48, .iconst 2, 49, []), (49, .newarray .int, 51, [0]), (51, .putfield 29, 54, [6, 2, 0, 6]), (54, .aload_n 0, 55, []), (55, .sipush 144, 58, []), (58, .newarray .int, 60, [0]), (60, .putfield 32, 63, [7, 2, 0, 6]), (63, .aload_n 0, 64, [])],
  [(64, .bipush 16, 66, []), (66, .newarray .int, 68, [0]), (68, .putfield 35, 71, [8, 2, 0, 6]), (71, .aload_n 0, 72, []), (72, .bipush 16, 74, []), (74, .newarray .boolean, 76, [1]), (76, .putfield 38, 79, [9, 2, 0, 6]), (79, .aload_n 0, 80, [])],
  [(80, .bipush 16, 82, []), (82, .newarray .boolean, 84, [1]), (84, .putfield 41, 87, [10, 2, 0, 6]), (87, .aload_n 0, 88, []), (88, .bipush 16, 90, []), (90, .newarray .boolean, 92, [1]), (92, .putfield 44, 95, [11, 2, 0, 6]), (95, .aload_n 0, 96, [])],
  [(96, .bipush 16, 98, []), (98, .newarray .boolean, 100, [1]), (100, .putfield 47, 103, [12, 2, 0, 6]), (103, .aload_n 0, 104, []), (104, .bipush 16, 106, []), (106, .newarray .int, 108, [0]), (108, .putfield 50, 111, [13, 2, 0, 6]), (111, .aload_n 0, 112, [])],
  [(112, .bipush 16, 114, []), (114, .newarray .int, 116, [0]), (116, .putfield 53, 119, [14, 2, 0, 6]), (119, .aload_n 0, 120, []), (120, .bipush 16, 122, []), (122, .newarray .int, 124, [0]), (124, .putfield 56, 127, [15, 2, 0, 6]), (127, .aload_n 0, 128, [])],
  [(128, .bipush 32, 130, []), (130, .newarray .int, 132, [0]), (132, .putfield 59, 135, [16, 2, 0, 6]), (135, .aload_n 0, 136, []), (136, .invokevirtual 62, 139, [0, 6, 6, 74]), (139, .return_, 140, [])]]
def pm_m73 : pm_Mt := (⟨"PlatformDoorsModel", "<init>", "()V"⟩, prog_9_method_1_code, 1, none, pm_c73, 0)
/-- 74: PlatformDoorsModel.begin()V -/
def pm_c74 : pm_Cd := [
  [(0, .iconst 0, 1, []), (1, .istore_n 1, 2, []), (2, .iload_n 1, 3, []), (3, .iconst 2, 4, []), (4, .if_icmp .ge 51, 7, [55]), (7, .aload_n 0, 8, []), (8, .getfield 7, 11, [0, 2, 6]), (11, .iload_n 1, 12, []), (12, .iconst 0, 13, []), (13, .iastore, 14, []), (14, .aload_n 0, 15, []), (15, .getfield 13, 18, [1, 2, 6])],
  [(18, .iload_n 1, 19, []), (19, .iconst 0, 20, []), (20, .iastore, 21, []), (21, .aload_n 0, 22, []), (22, .getfield 16, 25, [2, 2, 6]), (25, .iload_n 1, 26, []), (26, .iconst 0, 27, []), (27, .iastore, 28, []), (28, .aload_n 0, 29, []), (29, .getfield 19, 32, [3, 2, 6])],
  [(32, .iload_n 1, 33, []), (33, .iconst 0, 34, []), (34, .iastore, 35, []), (35, .aload_n 0, 36, []), (36, .getfield 22, 39, [4, 2, 6]), (39, .iload_n 1, 40, []), (40, .iconst 0, 41, []), (41, .bastore, 42, []), (42, .aload_n 0, 43, []), (43, .getfield 29, 46, [6, 2, 6]), (46, .iload_n 1, 47, []), (47, .iconst 0, 48, [])],
  [(48, .iastore, 49, []), (49, .iinc 1 1, 52, []), (52, .goto (-50), 55, [2]), (55, .iconst 0, 56, []), (56, .istore_n 1, 57, []), (57, .iload_n 1, 58, []), (58, .bipush 16, 60, []), (60, .if_icmp .ge 85, 63, [145]), (63, .aload_n 0, 64, [])],
  [(64, .getfield 35, 67, [8, 2, 6]), (67, .iload_n 1, 68, []), (68, .iconst 0, 69, []), (69, .iastore, 70, []), (70, .aload_n 0, 71, []), (71, .getfield 38, 74, [9, 2, 6]), (74, .iload_n 1, 75, []), (75, .iconst 0, 76, []), (76, .bastore, 77, []), (77, .aload_n 0, 78, []), (78, .getfield 41, 81, [10, 2, 6])],
  [(81, .iload_n 1, 82, []), (82, .iconst 0, 83, []), (83, .bastore, 84, []), (84, .aload_n 0, 85, []), (85, .getfield 44, 88, [11, 2, 6]), (88, .iload_n 1, 89, []), (89, .iconst 0, 90, []), (90, .bastore, 91, []), (91, .aload_n 0, 92, []), (92, .getfield 47, 95, [12, 2, 6]), (95, .iload_n 1, 96, [])],
  [(96, .iconst 0, 97, []), (97, .bastore, 98, []), (98, .aload_n 0, 99, []), (99, .getfield 50, 102, [13, 2, 6]), (102, .iload_n 1, 103, []), (103, .iconst 0, 104, []), (104, .iastore, 105, []), (105, .aload_n 0, 106, []), (106, .getfield 53, 109, [14, 2, 6]), (109, .iload_n 1, 110, []), (110, .iconst 0, 111, []), (111, .iastore, 112, [])],
  [(112, .aload_n 0, 113, []), (113, .getfield 56, 116, [15, 2, 6]), (116, .iload_n 1, 117, []), (117, .iconst 0, 118, []), (118, .iastore, 119, []), (119, .aload_n 0, 120, []), (120, .getfield 59, 123, [16, 2, 6]), (123, .iconst 2, 124, []), (124, .iload_n 1, 125, []), (125, .imul, 126, []), (126, .iconst 0, 127, []), (127, .iastore, 128, [])],
  [(128, .aload_n 0, 129, []), (129, .getfield 59, 132, [16, 2, 6]), (132, .iconst 2, 133, []), (133, .iload_n 1, 134, []), (134, .imul, 135, []), (135, .iconst 1, 136, []), (136, .iadd, 137, []), (137, .iconst 0, 138, []), (138, .iastore, 139, []), (139, .iinc 1 1, 142, []), (142, .goto (-85), 145, [57])],
  [(145, .aload_n 0, 146, []), (146, .iconst 0, 147, []), (147, .putfield 65, 150, [17, 0, 0, 6]), (150, .aload_n 0, 151, []), (151, .iconst 1, 152, []), (152, .putfield 69, 155, [18, 0, 0, 6]), (155, .aload_n 0, 156, []), (156, .iconst 0, 157, []), (157, .putfield 72, 160, [19, 0, 0, 6])],
  [(160, .aload_n 0, 161, []), (161, .iconst 0, 162, []), (162, .putfield 75, 165, [20, 0, 0, 6]), (165, .aload_n 0, 166, []), (166, .iconst 0, 167, []), (167, .putfield 78, 170, [21, 1, 0, 6]), (170, .aload_n 0, 171, []), (171, .sipush (-1000), 174, []), (174, .putfield 82, 177, [22, 0, 0, 6])],
  [(177, .aload_n 0, 178, []), (178, .iconst 0, 179, []), (179, .putfield 85, 182, [23, 0, 0, 6]), (182, .return_, 183, [])]]
def pm_m74 : pm_Mt := (⟨"PlatformDoorsModel", "begin", "()V"⟩, prog_9_method_2_code, 2, none, pm_c74, 0)
/-- 75: PlatformDoorsModel.age(I)I -/
def pm_c75 : pm_Cd := [
  [(0, .aload_n 0, 1, []), (1, .getfield 22, 4, [4, 2, 6]), (4, .iload_n 1, 5, []), (5, .baload, 6, []), (6, .ifCond .eq 17, 9, [23]), (9, .aload_n 0, 10, []), (10, .getfield 26, 13, [5, 2, 6]), (13, .bipush 6, 15, []), (15, .iload_n 1, 16, [])],
  [(16, .imul, 17, []), (17, .iconst 1, 18, []), (18, .iadd, 19, []), (19, .iaload, 20, []), (20, .ifCond .ne 8, 23, [28]), (23, .bipush (-2), 25, []), (25, .goto 23, 28, [48]), (28, .aload_n 0, 29, []), (29, .getfield 7, 32, [0, 2, 6])],
  [(32, .iload_n 1, 33, []), (33, .iaload, 34, []), (34, .iconst 5, 35, []), (35, .aload_n 0, 36, []), (36, .getfield 26, 39, [5, 2, 6]), (39, .bipush 6, 41, []), (41, .iload_n 1, 42, []), (42, .imul, 43, []), (43, .iconst 1, 44, []), (44, .iadd, 45, []), (45, .iaload, 46, []), (46, .imul, 47, []), (47, .isub, 48, [])],
  [(48, .ireturn, 49, [])]]
def pm_m75 : pm_Mt := (⟨"PlatformDoorsModel", "age", "(I)I"⟩, prog_9_method_3_code, 2, (some .int), pm_c75, 1)
/-- 76: PlatformDoorsModel.isFresh(I)Z -/
def pm_c76 : pm_Cd := [
  [(0, .aload_n 0, 1, []), (1, .iload_n 1, 2, []), (2, .invokevirtual 88, 5, [1, 6, 6, 75]), (5, .istore_n 2, 6, []), (6, .iload_n 2, 7, []), (7, .bipush (-2), 9, []), (9, .if_icmp .eq 13, 12, [22]), (12, .iload_n 2, 13, []), (13, .bipush 25, 15, []), (15, .if_icmp .gt 7, 18, [22])],
  [(18, .iconst 1, 19, []), (19, .goto 4, 22, [23]), (22, .iconst 0, 23, []), (23, .ireturn, 24, [])]]
def pm_m76 : pm_Mt := (⟨"PlatformDoorsModel", "isFresh", "(I)Z"⟩, prog_9_method_4_code, 3, (some .boolean), pm_c76, 2)
/-- 77: PlatformDoorsModel.isStale(I)Z -/
def pm_c77 : pm_Cd := [
  [(0, .aload_n 0, 1, []), (1, .iload_n 1, 2, []), (2, .invokevirtual 88, 5, [1, 6, 6, 75]), (5, .istore_n 2, 6, []), (6, .iload_n 2, 7, []), (7, .bipush (-2), 9, []), (9, .if_icmp .eq 9, 12, [18]), (12, .iload_n 2, 13, []), (13, .bipush 75, 15, []), (15, .if_icmp .le 7, 18, [22])],
  [(18, .iconst 1, 19, []), (19, .goto 4, 22, [23]), (22, .iconst 0, 23, []), (23, .ireturn, 24, [])]]
def pm_m77 : pm_Mt := (⟨"PlatformDoorsModel", "isStale", "(I)Z"⟩, prog_9_method_5_code, 3, (some .boolean), pm_c77, 2)
/-- 78: PlatformDoorsModel.isReady()Z -/
def pm_c78 : pm_Cd := [
  [(0, .aload_n 0, 1, []), (1, .getfield 65, 4, [17, 0, 6]), (4, .aload_n 0, 5, []), (5, .getfield 72, 8, [19, 0, 6]), (8, .iadd, 9, []), (9, .istore_n 1, 10, []), (10, .aload_n 0, 11, []), (11, .getfield 75, 14, [20, 0, 6]), (14, .bipush 20, 16, [])],
  [(16, .if_icmp .lt 21, 19, [37]), (19, .iload_n 1, 20, []), (20, .sipush (-250), 23, []), (23, .if_icmp .lt 14, 26, [37]), (26, .iload_n 1, 27, []), (27, .sipush 250, 30, []), (30, .if_icmp .gt 7, 33, [37])],
  [(33, .iconst 1, 34, []), (34, .goto 4, 37, [38]), (37, .iconst 0, 38, []), (38, .ireturn, 39, [])]]
def pm_m78 : pm_Mt := (⟨"PlatformDoorsModel", "isReady", "()Z"⟩, prog_9_method_6_code, 2, (some .boolean), pm_c78, 2)
/-- 79: PlatformDoorsModel.isLocked(I)Z -/
def pm_c79 : pm_Cd := [
  [(0, .aload_n 0, 1, []), (1, .getfield 35, 4, [8, 2, 6]), (4, .iload_n 1, 5, []), (5, .iaload, 6, []), (6, .ifCond .ne 25, 9, [31]), (9, .aload_n 0, 10, []), (10, .getfield 44, 13, [11, 2, 6]), (13, .iload_n 1, 14, []), (14, .baload, 15, []), (15, .ifCond .ne 16, 18, [31])],
  [(18, .aload_n 0, 19, []), (19, .getfield 41, 22, [10, 2, 6]), (22, .iload_n 1, 23, []), (23, .baload, 24, []), (24, .ifCond .ne 7, 27, [31]), (27, .iconst 1, 28, []), (28, .goto 4, 31, [32]), (31, .iconst 0, 32, [])],
  [(32, .ireturn, 33, [])]]
def pm_m79 : pm_Mt := (⟨"PlatformDoorsModel", "isLocked", "(I)Z"⟩, prog_9_method_7_code, 2, (some .boolean), pm_c79, 2)
/-- 80: PlatformDoorsModel.says(IZ)Z -/
def pm_c80 : pm_Cd := [
  [(0, .aload_n 0, 1, []), (1, .getfield 59, 4, [16, 2, 6]), (4, .iload_n 1, 5, []), (5, .iaload, 6, []), (6, .iconst 1, 7, []), (7, .if_icmp .eq 16, 10, [23]), (10, .aload_n 0, 11, []), (11, .getfield 59, 14, [16, 2, 6]), (14, .iload_n 1, 15, []), (15, .iaload, 16, [])],
  [(16, .ifCond .ne 11, 19, [27]), (19, .iload_n 2, 20, []), (20, .ifCond .eq 7, 23, [27]), (23, .iconst 1, 24, []), (24, .goto 4, 27, [28]), (27, .iconst 0, 28, []), (28, .ireturn, 29, [])]]
def pm_m80 : pm_Mt := (⟨"PlatformDoorsModel", "says", "(IZ)Z"⟩, prog_9_method_8_code, 3, (some .boolean), pm_c80, 2)
/-- 81: PlatformDoorsModel.isTold(I)Z -/
def pm_c81 : pm_Cd := [
  [(0, .aload_n 0, 1, []), (1, .iconst 2, 2, []), (2, .iload_n 1, 3, []), (3, .imul, 4, []), (4, .aload_n 0, 5, []), (5, .iload_n 1, 6, []), (6, .invokevirtual 92, 9, [1, 6, 6, 79]), (9, .invokevirtual 96, 12, [2, 6, 6, 80]), (12, .ifCond .eq 24, 15, [36]), (15, .aload_n 0, 16, [])],
  [(16, .iconst 2, 17, []), (17, .iload_n 1, 18, []), (18, .imul, 19, []), (19, .iconst 1, 20, []), (20, .iadd, 21, []), (21, .aload_n 0, 22, []), (22, .iload_n 1, 23, []), (23, .invokevirtual 92, 26, [1, 6, 6, 79]), (26, .invokevirtual 96, 29, [2, 6, 6, 80]), (29, .ifCond .eq 7, 32, [36])],
  [(32, .iconst 1, 33, []), (33, .goto 4, 36, [37]), (36, .iconst 0, 37, []), (37, .ireturn, 38, [])]]
def pm_m81 : pm_Mt := (⟨"PlatformDoorsModel", "isTold", "(I)Z"⟩, prog_9_method_9_code, 2, (some .boolean), pm_c81, 2)
/-- 82: PlatformDoorsModel.toldLeaves(I)I -/
def pm_c82 : pm_Cd := [
  [(0, .iconst 0, 1, []), (1, .istore_n 2, 2, []), (2, .bipush 8, 4, []), (4, .iload_n 1, 5, []), (5, .imul, 6, []), (6, .istore_n 3, 7, []), (7, .iload_n 3, 8, []), (8, .bipush 8, 10, []), (10, .iload_n 1, 11, []), (11, .imul, 12, []), (12, .bipush 8, 14, []), (14, .iadd, 15, []), (15, .if_icmp .ge 25, 18, [40])],
  [(18, .iload_n 2, 19, []), (19, .aload_n 0, 20, []), (20, .iload_n 3, 21, []), (21, .invokevirtual 100, 24, [1, 6, 6, 81]), (24, .ifCond .eq 7, 27, [31]), (27, .iconst 1, 28, []), (28, .goto 4, 31, [32]), (31, .iconst 0, 32, [])],
  [(32, .iadd, 33, []), (33, .istore_n 2, 34, []), (34, .iinc 3 1, 37, []), (37, .goto (-30), 40, [7]), (40, .iload_n 2, 41, []), (41, .ireturn, 42, [])]]
def pm_m82 : pm_Mt := (⟨"PlatformDoorsModel", "toldLeaves", "(I)I"⟩, prog_9_method_10_code, 4, (some .int), pm_c82, 1)
/-- 83: PlatformDoorsModel.isGood(I)Z -/
def pm_c83 : pm_Cd := [
  [(0, .iload_n 1, 1, []), (1, .ifCond .ne 10, 4, [11]), (4, .aload_n 0, 5, []), (5, .invokevirtual 103, 8, [0, 6, 6, 78]), (8, .goto 18, 11, [26]), (11, .aload_n 0, 12, []), (12, .iconst 1, 13, []), (13, .invokevirtual 107, 16, [1, 6, 6, 82])],
  [(16, .bipush 8, 18, []), (18, .if_icmp .ne 7, 21, [25]), (21, .iconst 1, 22, []), (22, .goto 4, 25, [26]), (25, .iconst 0, 26, []), (26, .ireturn, 27, [])]]
def pm_m83 : pm_Mt := (⟨"PlatformDoorsModel", "isGood", "(I)Z"⟩, prog_9_method_11_code, 2, (some .boolean), pm_c83, 2)
/-- 84: PlatformDoorsModel.isolatedBits(I)I -/
def pm_c84 : pm_Cd := [
  [(0, .iconst 0, 1, []), (1, .istore_n 2, 2, []), (2, .iconst 0, 3, []), (3, .istore_n 3, 4, []), (4, .iload_n 3, 5, []), (5, .bipush 8, 7, []), (7, .if_icmp .ge 33, 10, [40]), (10, .iload_n 2, 11, []), (11, .aload_n 0, 12, []), (12, .getfield 38, 15, [9, 2, 6]), (15, .bipush 8, 17, [])],
  [(17, .iload_n 1, 18, []), (18, .imul, 19, []), (19, .iload_n 3, 20, []), (20, .iadd, 21, []), (21, .baload, 22, []), (22, .ifCond .eq 9, 25, [31]), (25, .iconst 1, 26, []), (26, .iload_n 3, 27, []), (27, .ishl, 28, []), (28, .goto 4, 31, [32]), (31, .iconst 0, 32, [])],
  [(32, .iadd, 33, []), (33, .istore_n 2, 34, []), (34, .iinc 3 1, 37, []), (37, .goto (-33), 40, [4]), (40, .iload_n 2, 41, []), (41, .ireturn, 42, [])]]
def pm_m84 : pm_Mt := (⟨"PlatformDoorsModel", "isolatedBits", "(I)I"⟩, prog_9_method_12_code, 4, (some .int), pm_c84, 1)
/-- 85: PlatformDoorsModel.mayOpen(I)Z -/
def pm_c85 : pm_Cd := [
  [(0, .aload_n 0, 1, []), (1, .iload_n 1, 2, []), (2, .invokevirtual 110, 5, [1, 6, 6, 76]), (5, .istore_n 2, 6, []), (6, .iload_n 1, 7, []), (7, .ifCond .ne 37, 10, [44]), (10, .aload_n 0, 11, []), (11, .getfield 78, 14, [21, 1, 6]), (14, .ifCond .eq 28, 17, [42])],
  [(17, .aload_n 0, 18, []), (18, .invokevirtual 103, 21, [0, 6, 6, 78]), (21, .ifCond .eq 21, 24, [42]), (24, .iload_n 2, 25, []), (25, .ifCond .eq 17, 28, [42]), (28, .aload_n 0, 29, []), (29, .getfield 26, 32, [5, 2, 6])],
  [(32, .iconst 2, 33, []), (33, .iaload, 34, []), (34, .iconst 1, 35, []), (35, .if_icmp .ne 7, 38, [42]), (38, .iconst 1, 39, []), (39, .goto 4, 42, [43]), (42, .iconst 0, 43, []), (43, .ireturn, 44, []), (44, .iload_n 2, 45, []), (45, .ifCond .eq 29, 48, [74])],
  [(48, .aload_n 0, 49, []), (49, .getfield 26, 52, [5, 2, 6]), (52, .bipush 10, 54, []), (54, .iaload, 55, []), (55, .iconst 1, 56, []), (56, .if_icmp .ne 18, 59, [74]), (59, .aload_n 0, 60, []), (60, .getfield 26, 63, [5, 2, 6]), (63, .bipush 11, 65, [])],
  [(65, .iaload, 66, []), (66, .iconst 1, 67, []), (67, .if_icmp .ne 7, 70, [74]), (70, .iconst 1, 71, []), (71, .goto 4, 74, [75]), (74, .iconst 0, 75, []), (75, .ireturn, 76, [])]]
def pm_m85 : pm_Mt := (⟨"PlatformDoorsModel", "mayOpen", "(I)Z"⟩, prog_9_method_13_code, 3, (some .boolean), pm_c85, 2)
/-- 86: PlatformDoorsModel.mustClose(I)Z -/
def pm_c86 : pm_Cd := [
  [(0, .aload_n 0, 1, []), (1, .iload_n 1, 2, []), (2, .invokevirtual 113, 5, [1, 6, 6, 77]), (5, .ifCond .eq 5, 8, [10]), (8, .iconst 1, 9, []), (9, .ireturn, 10, []), (10, .iload_n 1, 11, []), (11, .ifCond .ne 25, 14, [36]), (14, .aload_n 0, 15, []), (15, .getfield 78, 18, [21, 1, 6])],
  [(18, .ifCond .eq 10, 21, [28]), (21, .aload_n 0, 22, []), (22, .invokevirtual 103, 25, [0, 6, 6, 78]), (25, .ifCond .ne 7, 28, [32]), (28, .iconst 1, 29, []), (29, .goto 32, 32, [61])],
  [(32, .iconst 0, 33, []), (33, .goto 28, 36, [61]), (36, .aload_n 0, 37, []), (37, .getfield 26, 40, [5, 2, 6]), (40, .bipush 10, 42, []), (42, .iaload, 43, []), (43, .ifCond .eq 13, 46, [56]), (46, .aload_n 0, 47, []), (47, .getfield 26, 50, [5, 2, 6])],
  [(50, .bipush 11, 52, []), (52, .iaload, 53, []), (53, .ifCond .ne 7, 56, [60]), (56, .iconst 1, 57, []), (57, .goto 4, 60, [61]), (60, .iconst 0, 61, []), (61, .ireturn, 62, [])]]
def pm_m86 : pm_Mt := (⟨"PlatformDoorsModel", "mustClose", "(I)Z"⟩, prog_9_method_14_code, 2, (some .boolean), pm_c86, 2)
/-- 87: PlatformDoorsModel.changeState(I)V -/
def pm_c87 : pm_Cd := [
  [(0, .aload_n 0, 1, []), (1, .getfield 13, 4, [1, 2, 6]), (4, .iload_n 1, 5, []), (5, .iaload, 6, []), (6, .ifCond .ne 31, 9, [37]), (9, .aload_n 0, 10, []), (10, .iload_n 1, 11, []), (11, .invokevirtual 116, 14, [1, 6, 6, 85]), (14, .ifCond .eq 89, 17, [103])],
  [(17, .aload_n 0, 18, []), (18, .getfield 13, 21, [1, 2, 6]), (21, .iload_n 1, 22, []), (22, .iconst 1, 23, []), (23, .iastore, 24, []), (24, .aload_n 0, 25, []), (25, .getfield 19, 28, [3, 2, 6]), (28, .iload_n 1, 29, []), (29, .dup2, 30, []), (30, .iaload, 31, []), (31, .iconst 1, 32, [])],
  [(32, .iadd, 33, []), (33, .iastore, 34, []), (34, .goto 69, 37, [103]), (37, .aload_n 0, 38, []), (38, .getfield 13, 41, [1, 2, 6]), (41, .iload_n 1, 42, []), (42, .iaload, 43, []), (43, .iconst 1, 44, []), (44, .if_icmp .ne 33, 47, [77]), (47, .aload_n 0, 48, [])],
  [(48, .iload_n 1, 49, []), (49, .invokevirtual 119, 52, [1, 6, 6, 86]), (52, .ifCond .eq 51, 55, [103]), (55, .aload_n 0, 56, []), (56, .getfield 13, 59, [1, 2, 6]), (59, .iload_n 1, 60, []), (60, .iconst 2, 61, []), (61, .iastore, 62, []), (62, .aload_n 0, 63, []), (63, .getfield 16, 66, [2, 2, 6])],
  [(66, .iload_n 1, 67, []), (67, .aload_n 0, 68, []), (68, .getfield 7, 71, [0, 2, 6]), (71, .iload_n 1, 72, []), (72, .iaload, 73, []), (73, .iastore, 74, []), (74, .goto 29, 77, [103]), (77, .aload_n 0, 78, []), (78, .getfield 7, 81, [0, 2, 6])],
  [(81, .iload_n 1, 82, []), (82, .iaload, 83, []), (83, .aload_n 0, 84, []), (84, .getfield 16, 87, [2, 2, 6]), (87, .iload_n 1, 88, []), (88, .iaload, 89, []), (89, .isub, 90, []), (90, .sipush 150, 93, []), (93, .if_icmp .ne 10, 96, [103])],
  [(96, .aload_n 0, 97, []), (97, .getfield 13, 100, [1, 2, 6]), (100, .iload_n 1, 101, []), (101, .iconst 0, 102, []), (102, .iastore, 103, []), (103, .return_, 104, [])]]
def pm_m87 : pm_Mt := (⟨"PlatformDoorsModel", "changeState", "(I)V"⟩, prog_9_method_15_code, 2, none, pm_c87, 0)
/-- 88: PlatformDoorsModel.moveLeaf(II)V -/
def pm_c88 : pm_Cd := [
  [(0, .bipush 8, 2, []), (2, .iload_n 1, 3, []), (3, .imul, 4, []), (4, .iload_n 2, 5, []), (5, .iadd, 6, []), (6, .istore_n 3, 7, []), (7, .aload_n 0, 8, []), (8, .getfield 22, 11, [4, 2, 6]), (11, .iload_n 1, 12, []), (12, .baload, 13, []), (13, .ifCond .eq 26, 16, [39])],
  [(16, .aload_n 0, 17, []), (17, .getfield 26, 20, [5, 2, 6]), (20, .bipush 6, 22, []), (22, .iload_n 1, 23, []), (23, .imul, 24, []), (24, .iconst 3, 25, []), (25, .iadd, 26, []), (26, .iaload, 27, []), (27, .iload_n 2, 28, []), (28, .ishr, 29, []), (29, .iconst 1, 30, []), (30, .iand, 31, []), (31, .iconst 1, 32, [])],
  [(32, .if_icmp .ne 7, 35, [39]), (35, .iconst 1, 36, []), (36, .goto 4, 39, [40]), (39, .iconst 0, 40, []), (40, .istore 4, 42, []), (42, .aload_n 0, 43, []), (43, .getfield 44, 46, [11, 2, 6]), (46, .iload_n 3, 47, []), (47, .aload_n 0, 48, [])],
  [(48, .getfield 13, 51, [1, 2, 6]), (51, .iload_n 1, 52, []), (52, .iaload, 53, []), (53, .ifCond .eq 17, 56, [70]), (56, .aload_n 0, 57, []), (57, .getfield 38, 60, [9, 2, 6]), (60, .iload_n 3, 61, []), (61, .baload, 62, []), (62, .ifCond .ne 8, 65, [70])],
  [(65, .iload 4, 67, []), (67, .ifCond .eq 12, 70, [79]), (70, .aload_n 0, 71, []), (71, .getfield 56, 74, [15, 2, 6]), (74, .iload_n 3, 75, []), (75, .iaload, 76, []), (76, .ifCond .le 7, 79, [83]), (79, .iconst 1, 80, [])],
  [(80, .goto 4, 83, [84]), (83, .iconst 0, 84, []), (84, .bastore, 85, []), (85, .iconst 0, 86, []), (86, .istore 5, 88, []), (88, .aload_n 0, 89, []), (89, .getfield 41, 92, [10, 2, 6]), (92, .iload_n 3, 93, []), (93, .baload, 94, []), (94, .ifCond .eq 17, 97, [111])],
  [(97, .aload_n 0, 98, []), (98, .getfield 35, 101, [8, 2, 6]), (101, .iload_n 3, 102, []), (102, .dup2, 103, []), (103, .iaload, 104, []), (104, .bipush 10, 106, []), (106, .iadd, 107, []), (107, .iastore, 108, []), (108, .goto 146, 111, [254]), (111, .aload_n 0, 112, [])],
  [(112, .getfield 44, 115, [11, 2, 6]), (115, .iload_n 3, 116, []), (116, .baload, 117, []), (117, .ifCond .eq 16, 120, [133]), (120, .aload_n 0, 121, []), (121, .getfield 35, 124, [8, 2, 6]), (124, .iload_n 3, 125, []), (125, .dup2, 126, []), (126, .iaload, 127, []), (127, .iconst 5, 128, [])],
  [(128, .iadd, 129, []), (129, .iastore, 130, []), (130, .goto 124, 133, [254]), (133, .aload_n 0, 134, []), (134, .getfield 35, 137, [8, 2, 6]), (137, .iload_n 3, 138, []), (138, .iaload, 139, []), (139, .ifCond .le 87, 142, [226]), (142, .aload_n 0, 143, []), (143, .getfield 50, 146, [13, 2, 6])],
  [(146, .iload_n 3, 147, []), (147, .iaload, 148, []), (148, .ifCond .le 78, 151, [226]), (151, .aload_n 0, 152, []), (152, .getfield 35, 155, [8, 2, 6]), (155, .iload_n 3, 156, []), (156, .iaload, 157, []), (157, .bipush 40, 159, []), (159, .if_icmp .gt 67, 162, [226])],
  [(162, .aload_n 0, 163, []), (163, .getfield 53, 166, [14, 2, 6]), (166, .iload_n 3, 167, []), (167, .iaload, 168, []), (168, .iconst 3, 169, []), (169, .if_icmp .ge 7, 172, [176]), (172, .iconst 1, 173, []), (173, .goto 4, 176, [177])],
  [(176, .iconst 0, 177, []), (177, .istore 5, 179, []), (179, .aload_n 0, 180, []), (180, .getfield 53, 183, [14, 2, 6]), (183, .iload_n 3, 184, []), (184, .dup2, 185, []), (185, .iaload, 186, []), (186, .iload 5, 188, []), (188, .ifCond .eq 7, 191, [195]), (191, .iconst 1, 192, [])],
  [(192, .goto 4, 195, [196]), (195, .iconst 0, 196, []), (196, .iadd, 197, []), (197, .iastore, 198, []), (198, .aload_n 0, 199, []), (199, .getfield 47, 202, [12, 2, 6]), (202, .iload_n 3, 203, []), (203, .aload_n 0, 204, []), (204, .getfield 47, 207, [12, 2, 6]), (207, .iload_n 3, 208, [])],
  [(208, .baload, 209, []), (209, .ifCond .ne 8, 212, [217]), (212, .iload 5, 214, []), (214, .ifCond .ne 7, 217, [221]), (217, .iconst 1, 218, []), (218, .goto 4, 221, [222]), (221, .iconst 0, 222, []), (222, .bastore, 223, []), (223, .goto 31, 226, [254])],
  [(226, .aload_n 0, 227, []), (227, .getfield 35, 230, [8, 2, 6]), (230, .iload_n 3, 231, []), (231, .aload_n 0, 232, []), (232, .getfield 35, 235, [8, 2, 6]), (235, .iload_n 3, 236, []), (236, .iaload, 237, []), (237, .iconst 5, 238, []), (238, .if_icmp .le 14, 241, [252])],
  [(241, .aload_n 0, 242, []), (242, .getfield 35, 245, [8, 2, 6]), (245, .iload_n 3, 246, []), (246, .iaload, 247, []), (247, .iconst 5, 248, []), (248, .isub, 249, []), (249, .goto 4, 252, [253]), (252, .iconst 0, 253, []), (253, .iastore, 254, []), (254, .aload_n 0, 255, []), (255, .getfield 35, 258, [8, 2, 6])],
  [(258, .iload_n 3, 259, []), (259, .aload_n 0, 260, []), (260, .getfield 35, 263, [8, 2, 6]), (263, .iload_n 3, 264, []), (264, .iaload, 265, []), (265, .bipush 100, 267, []), (267, .if_icmp .le 8, 270, [275]), (270, .bipush 100, 272, [])],
  [(272, .goto 9, 275, [281]), (275, .aload_n 0, 276, []), (276, .getfield 35, 279, [8, 2, 6]), (279, .iload_n 3, 280, []), (280, .iaload, 281, []), (281, .iastore, 282, []), (282, .aload_n 0, 283, []), (283, .iload_n 3, 284, []), (284, .invokevirtual 92, 287, [1, 6, 6, 79]), (287, .ifCond .eq 17, 290, [304])],
  [(290, .aload_n 0, 291, []), (291, .getfield 53, 294, [14, 2, 6]), (294, .iload_n 3, 295, []), (295, .iconst 0, 296, []), (296, .iastore, 297, []), (297, .aload_n 0, 298, []), (298, .getfield 47, 301, [12, 2, 6]), (301, .iload_n 3, 302, []), (302, .iconst 0, 303, []), (303, .bastore, 304, [])],
  [(304, .aload_n 0, 305, []), (305, .getfield 50, 308, [13, 2, 6]), (308, .iload_n 3, 309, []), (309, .dup2, 310, []), (310, .iaload, 311, []), (311, .aload_n 0, 312, []), (312, .getfield 50, 315, [13, 2, 6]), (315, .iload_n 3, 316, []), (316, .iaload, 317, []), (317, .ifCond .le 7, 320, [324])],
  [(320, .iconst 1, 321, []), (321, .goto 4, 324, [325]), (324, .iconst 0, 325, []), (325, .isub, 326, []), (326, .iastore, 327, []), (327, .aload_n 0, 328, []), (328, .getfield 56, 331, [15, 2, 6]), (331, .iload_n 3, 332, []), (332, .iload 5, 334, []), (334, .ifCond .eq 8, 337, [342])],
  [(337, .bipush 40, 339, []), (339, .goto 24, 342, [363]), (342, .aload_n 0, 343, []), (343, .getfield 56, 346, [15, 2, 6]), (346, .iload_n 3, 347, []), (347, .iaload, 348, []), (348, .ifCond .le 14, 351, [362]), (351, .aload_n 0, 352, [])],
  [(352, .getfield 56, 355, [15, 2, 6]), (355, .iload_n 3, 356, []), (356, .iaload, 357, []), (357, .iconst 1, 358, []), (358, .isub, 359, []), (359, .goto 4, 362, [363]), (362, .iconst 0, 363, []), (363, .iastore, 364, []), (364, .return_, 365, [])]]
def pm_m88 : pm_Mt := (⟨"PlatformDoorsModel", "moveLeaf", "(II)V"⟩, prog_9_method_16_code, 6, none, pm_c88, 0)
/-- 89: PlatformDoorsModel.send(I)V -/
def pm_c89 : pm_Cd := [
  [(0, .iconst 1, 1, []), (1, .iload_n 1, 2, []), (2, .isub, 3, []), (3, .istore_n 2, 4, []), (4, .aload_n 0, 5, []), (5, .getfield 7, 8, [0, 2, 6]), (8, .iload_n 1, 9, []), (9, .iaload, 10, []), (10, .iconst 5, 11, []), (11, .irem, 12, []), (12, .ifCond .ne 14, 15, [26]), (15, .aload_n 0, 16, [])],
  [(16, .getfield 29, 19, [6, 2, 6]), (19, .iload_n 2, 20, []), (20, .iaload, 21, []), (21, .bipush 12, 23, []), (23, .if_icmp .ne 4, 26, [27]), (26, .return_, 27, []), (27, .bipush 72, 29, []), (29, .iload_n 2, 30, []), (30, .imul, 31, []), (31, .bipush 6, 33, [])],
  [(33, .aload_n 0, 34, []), (34, .getfield 29, 37, [6, 2, 6]), (37, .iload_n 2, 38, []), (38, .iaload, 39, []), (39, .imul, 40, []), (40, .iadd, 41, []), (41, .istore_n 3, 42, []), (42, .aload_n 0, 43, []), (43, .getfield 32, 46, [7, 2, 6]), (46, .iload_n 3, 47, []), (47, .aload_n 0, 48, [])],
  [(48, .getfield 7, 51, [0, 2, 6]), (51, .iload_n 1, 52, []), (52, .iaload, 53, []), (53, .iconst 5, 54, []), (54, .idiv, 55, []), (55, .iastore, 56, []), (56, .aload_n 0, 57, []), (57, .getfield 32, 60, [7, 2, 6]), (60, .iload_n 3, 61, []), (61, .iconst 1, 62, []), (62, .iadd, 63, []), (63, .aload_n 0, 64, [])],
  [(64, .getfield 22, 67, [4, 2, 6]), (67, .iload_n 1, 68, []), (68, .baload, 69, []), (69, .ifCond .eq 15, 72, [84]), (72, .aload_n 0, 73, []), (73, .getfield 26, 76, [5, 2, 6]), (76, .bipush 6, 78, []), (78, .iload_n 1, 79, []), (79, .imul, 80, [])],
  [(80, .iaload, 81, []), (81, .goto 4, 84, [85]), (84, .iconst 0, 85, []), (85, .iastore, 86, []), (86, .aload_n 0, 87, []), (87, .getfield 32, 90, [7, 2, 6]), (90, .iload_n 3, 91, []), (91, .iconst 2, 92, []), (92, .iadd, 93, []), (93, .aload_n 0, 94, []), (94, .getfield 13, 97, [1, 2, 6])],
  [(97, .iload_n 1, 98, []), (98, .iaload, 99, []), (99, .iastore, 100, []), (100, .aload_n 0, 101, []), (101, .getfield 32, 104, [7, 2, 6]), (104, .iload_n 3, 105, []), (105, .iconst 3, 106, []), (106, .iadd, 107, []), (107, .aload_n 0, 108, []), (108, .iload_n 1, 109, []), (109, .invokevirtual 122, 112, [1, 6, 6, 84])],
  [(112, .iastore, 113, []), (113, .aload_n 0, 114, []), (114, .getfield 32, 117, [7, 2, 6]), (117, .iload_n 3, 118, []), (118, .iconst 4, 119, []), (119, .iadd, 120, []), (120, .aload_n 0, 121, []), (121, .iload_n 1, 122, []), (122, .invokevirtual 125, 125, [1, 6, 6, 83]), (125, .ifCond .eq 7, 128, [132])],
  [(128, .iconst 1, 129, []), (129, .goto 4, 132, [133]), (132, .iconst 0, 133, []), (133, .iastore, 134, []), (134, .aload_n 0, 135, []), (135, .getfield 32, 138, [7, 2, 6]), (138, .iload_n 3, 139, []), (139, .iconst 5, 140, []), (140, .iadd, 141, []), (141, .iload_n 1, 142, []), (142, .ifCond .ne 14, 145, [156])],
  [(145, .aload_n 0, 146, []), (146, .getfield 78, 149, [21, 1, 6]), (149, .ifCond .eq 7, 152, [156]), (152, .iconst 1, 153, []), (153, .goto 4, 156, [157]), (156, .iconst 0, 157, []), (157, .iastore, 158, []), (158, .aload_n 0, 159, []), (159, .getfield 29, 162, [6, 2, 6])],
  [(162, .iload_n 2, 163, []), (163, .dup2, 164, []), (164, .iaload, 165, []), (165, .iconst 1, 166, []), (166, .iadd, 167, []), (167, .iastore, 168, []), (168, .return_, 169, [])]]
def pm_m89 : pm_Mt := (⟨"PlatformDoorsModel", "send", "(I)V"⟩, prog_9_method_17_code, 4, none, pm_c89, 0)
/-- 90: PlatformDoorsModel.stepOne(I)V -/
def pm_c90 : pm_Cd := [
  [(0, .aload_n 0, 1, []), (1, .getfield 7, 4, [0, 2, 6]), (4, .iload_n 1, 5, []), (5, .dup2, 6, []), (6, .iaload, 7, []), (7, .iconst 1, 8, []), (8, .iadd, 9, []), (9, .iastore, 10, []), (10, .iload_n 1, 11, []), (11, .ifCond .ne 41, 14, [52]), (14, .aload_n 0, 15, []), (15, .aload_n 0, 16, [])],
  [(16, .getfield 69, 19, [18, 0, 6]), (19, .ifCond .ne 29, 22, [48]), (22, .aload_n 0, 23, []), (23, .getfield 75, 26, [20, 0, 6]), (26, .sipush 1000, 29, []), (29, .if_icmp .ge 12, 32, [41])],
  [(32, .aload_n 0, 33, []), (33, .getfield 75, 36, [20, 0, 6]), (36, .iconst 1, 37, []), (37, .iadd, 38, []), (38, .goto 11, 41, [49]), (41, .aload_n 0, 42, []), (42, .getfield 75, 45, [20, 0, 6]), (45, .goto 4, 48, [49])],
  [(48, .iconst 0, 49, []), (49, .putfield 75, 52, [20, 0, 0, 6]), (52, .aload_n 0, 53, []), (53, .getfield 19, 56, [3, 2, 6]), (56, .iconst 1, 57, []), (57, .iaload, 58, []), (58, .istore_n 2, 59, []), (59, .aload_n 0, 60, []), (60, .iload_n 1, 61, []), (61, .invokevirtual 128, 64, [1, 6, 6, 87])],
  [(64, .iconst 0, 65, []), (65, .istore_n 3, 66, []), (66, .iload_n 3, 67, []), (67, .bipush 8, 69, []), (69, .if_icmp .ge 15, 72, [84]), (72, .aload_n 0, 73, []), (73, .iload_n 1, 74, []), (74, .iload_n 3, 75, []), (75, .invokevirtual 132, 78, [2, 6, 6, 88]), (78, .iinc 3 1, 81, [])],
  [(81, .goto (-15), 84, [66]), (84, .aload_n 0, 85, []), (85, .iload_n 1, 86, []), (86, .invokevirtual 136, 89, [1, 6, 6, 89]), (89, .iload_n 1, 90, []), (90, .ifCond .ne 40, 93, [130]), (93, .aload_n 0, 94, []), (94, .getfield 69, 97, [18, 0, 6])],
  [(97, .ifCond .ne 33, 100, [130]), (100, .aload_n 0, 101, []), (101, .getfield 65, 104, [17, 0, 6]), (104, .sipush (-350), 107, []), (107, .if_icmp .lt 23, 110, [130]), (110, .aload_n 0, 111, []), (111, .getfield 65, 114, [17, 0, 6])],
  [(114, .sipush 350, 117, []), (117, .if_icmp .gt 13, 120, [130]), (120, .aload_n 0, 121, []), (121, .aload_n 0, 122, []), (122, .getfield 7, 125, [0, 2, 6]), (125, .iconst 1, 126, []), (126, .iaload, 127, []), (127, .putfield 82, 130, [22, 0, 0, 6])],
  [(130, .aload_n 0, 131, []), (131, .getfield 19, 134, [3, 2, 6]), (134, .iconst 1, 135, []), (135, .iaload, 136, []), (136, .iload_n 2, 137, []), (137, .if_icmp .le 29, 140, [166]), (140, .aload_n 0, 141, []), (141, .getfield 82, 144, [22, 0, 6])],
  [(144, .aload_n 0, 145, []), (145, .getfield 7, 148, [0, 2, 6]), (148, .iconst 1, 149, []), (149, .iaload, 150, []), (150, .bipush 25, 152, []), (152, .isub, 153, []), (153, .if_icmp .ge 13, 156, [166]), (156, .aload_n 0, 157, []), (157, .dup, 158, []), (158, .getfield 85, 161, [23, 0, 6])],
  [(161, .iconst 1, 162, []), (162, .iadd, 163, []), (163, .putfield 85, 166, [23, 0, 0, 6]), (166, .return_, 167, [])]]
def pm_m90 : pm_Mt := (⟨"PlatformDoorsModel", "stepOne", "(I)V"⟩, prog_9_method_18_code, 4, none, pm_c90, 0)
/-- 91: PlatformDoorsModel.noSide(I)Z -/
def pm_c91 : pm_Cd := [
  [(0, .iload_n 0, 1, []), (1, .ifCond .lt 8, 4, [9]), (4, .iload_n 0, 5, []), (5, .iconst 1, 6, []), (6, .if_icmp .le 7, 9, [13]), (9, .iconst 1, 10, []), (10, .goto 4, 13, [14]), (13, .iconst 0, 14, []), (14, .ireturn, 15, [])]]
def pm_m91 : pm_Mt := (⟨"PlatformDoorsModel", "noSide", "(I)Z"⟩, prog_9_method_19_code, 1, (some .boolean), pm_c91, 2)
/-- 92: PlatformDoorsModel.step(II)I -/
def pm_c92 : pm_Cd := [
  [(0, .iload_n 1, 1, []), (1, .invokestatic 139, 4, [1, 91]), (4, .ifCond .ne 15, 7, [19]), (7, .iload_n 2, 8, []), (8, .iconst 1, 9, []), (9, .if_icmp .lt 10, 12, [19]), (12, .iload_n 2, 13, []), (13, .sipush 500, 16, [])],
  [(16, .if_icmp .le 5, 19, [21]), (19, .iconst (-1), 20, []), (20, .ireturn, 21, []), (21, .iconst 0, 22, []), (22, .istore_n 3, 23, []), (23, .iload_n 3, 24, []), (24, .iload_n 2, 25, []), (25, .if_icmp .ge 14, 28, [39]), (28, .aload_n 0, 29, []), (29, .iload_n 1, 30, []), (30, .invokevirtual 142, 33, [1, 6, 6, 90])],
  [(33, .iinc 3 1, 36, []), (36, .goto (-13), 39, [23]), (39, .aload_n 0, 40, []), (40, .getfield 7, 43, [0, 2, 6]), (43, .iload_n 1, 44, []), (44, .iaload, 45, []), (45, .ireturn, 46, [])]]
def pm_m92 : pm_Mt := (⟨"PlatformDoorsModel", "step", "(II)I"⟩, prog_9_method_20_code, 4, (some .int), pm_c92, 1)
/-- 93: PlatformDoorsModel.arrive(II)I -/
def pm_c93 : pm_Cd := [
  [(0, .iload_n 1, 1, []), (1, .ldc 145, 3, [2000000, 1]), (3, .if_icmp .lt 20, 6, [23]), (6, .iload_n 1, 7, []), (7, .ldc 146, 9, [2000000, 0]), (9, .if_icmp .gt 14, 12, [23]), (12, .iload_n 2, 13, []), (13, .ifCond .lt 10, 16, [23])],
  [(16, .iload_n 2, 17, []), (17, .sipush 30000, 20, []), (20, .if_icmp .le 5, 23, [25]), (23, .iconst (-1), 24, []), (24, .ireturn, 25, []), (25, .aload_n 0, 26, []), (26, .iload_n 1, 27, []), (27, .putfield 65, 30, [17, 0, 0, 6]), (30, .aload_n 0, 31, []), (31, .iload_n 2, 32, [])],
  [(32, .putfield 69, 35, [18, 0, 0, 6]), (35, .iconst 0, 36, []), (36, .ireturn, 37, [])]]
def pm_m93 : pm_Mt := (⟨"PlatformDoorsModel", "arrive", "(II)I"⟩, prog_9_method_21_code, 3, (some .int), pm_c93, 1)
/-- 94: PlatformDoorsModel.error(I)I -/
def pm_c94 : pm_Cd := [
  [(0, .iload_n 1, 1, []), (1, .sipush (-1000), 4, []), (4, .if_icmp .lt 10, 7, [14]), (7, .iload_n 1, 8, []), (8, .sipush 1000, 11, []), (11, .if_icmp .le 7, 14, [18]), (14, .sipush (-2000), 17, [])],
  [(17, .ireturn, 18, []), (18, .aload_n 0, 19, []), (19, .getfield 72, 22, [19, 0, 6]), (22, .istore_n 2, 23, []), (23, .aload_n 0, 24, []), (24, .iload_n 1, 25, []), (25, .putfield 72, 28, [19, 0, 0, 6]), (28, .iload_n 2, 29, []), (29, .ireturn, 30, [])]]
def pm_m94 : pm_Mt := (⟨"PlatformDoorsModel", "error", "(I)I"⟩, prog_9_method_22_code, 3, (some .int), pm_c94, 1)
/-- 95: PlatformDoorsModel.command(Z)Z -/
def pm_c95 : pm_Cd := [
  [(0, .aload_n 0, 1, []), (1, .getfield 78, 4, [21, 1, 6]), (4, .istore_n 2, 5, []), (5, .aload_n 0, 6, []), (6, .iload_n 1, 7, []), (7, .putfield 78, 10, [21, 1, 0, 6]), (10, .iload_n 2, 11, []), (11, .ireturn, 12, [])]]
def pm_m95 : pm_Mt := (⟨"PlatformDoorsModel", "command", "(Z)Z"⟩, prog_9_method_23_code, 3, (some .boolean), pm_c95, 2)
/-- 96: PlatformDoorsModel.noLeaf(II)Z -/
def pm_c96 : pm_Cd := [
  [(0, .iload_n 0, 1, []), (1, .invokestatic 139, 4, [1, 91]), (4, .ifCond .ne 13, 7, [17]), (7, .iload_n 1, 8, []), (8, .ifCond .lt 9, 11, [17]), (11, .iload_n 1, 12, []), (12, .bipush 7, 14, []), (14, .if_icmp .le 7, 17, [21])],
  [(17, .iconst 1, 18, []), (18, .goto 4, 21, [22]), (21, .iconst 0, 22, []), (22, .ireturn, 23, [])]]
def pm_m96 : pm_Mt := (⟨"PlatformDoorsModel", "noLeaf", "(II)Z"⟩, prog_9_method_24_code, 2, (some .boolean), pm_c96, 2)
/-- 97: PlatformDoorsModel.isolate(IIZ)I -/
def pm_c97 : pm_Cd := [
  [(0, .iload_n 1, 1, []), (1, .iload_n 2, 2, []), (2, .invokestatic 147, 5, [2, 96]), (5, .ifCond .eq 5, 8, [10]), (8, .iconst (-1), 9, []), (9, .ireturn, 10, []), (10, .aload_n 0, 11, []), (11, .getfield 38, 14, [9, 2, 6]), (14, .bipush 8, 16, [])],
  [(16, .iload_n 1, 17, []), (17, .imul, 18, []), (18, .iload_n 2, 19, []), (19, .iadd, 20, []), (20, .baload, 21, []), (21, .ifCond .eq 7, 24, [28]), (24, .iconst 1, 25, []), (25, .goto 4, 28, [29]), (28, .iconst 0, 29, []), (29, .istore 4, 31, []), (31, .aload_n 0, 32, [])],
  [(32, .getfield 38, 35, [9, 2, 6]), (35, .bipush 8, 37, []), (37, .iload_n 1, 38, []), (38, .imul, 39, []), (39, .iload_n 2, 40, []), (40, .iadd, 41, []), (41, .iload_n 3, 42, []), (42, .bastore, 43, []), (43, .iload 4, 45, []), (45, .ireturn, 46, [])]]
def pm_m97 : pm_Mt := (⟨"PlatformDoorsModel", "isolate", "(IIZ)I"⟩, prog_9_method_25_code, 5, (some .int), pm_c97, 1)
/-- 98: PlatformDoorsModel.release(IIZ)I -/
def pm_c98 : pm_Cd := [
  [(0, .iload_n 1, 1, []), (1, .iload_n 2, 2, []), (2, .invokestatic 147, 5, [2, 96]), (5, .ifCond .eq 5, 8, [10]), (8, .iconst (-1), 9, []), (9, .ireturn, 10, []), (10, .aload_n 0, 11, []), (11, .getfield 41, 14, [10, 2, 6]), (14, .bipush 8, 16, [])],
  [(16, .iload_n 1, 17, []), (17, .imul, 18, []), (18, .iload_n 2, 19, []), (19, .iadd, 20, []), (20, .baload, 21, []), (21, .ifCond .eq 7, 24, [28]), (24, .iconst 1, 25, []), (25, .goto 4, 28, [29]), (28, .iconst 0, 29, []), (29, .istore 4, 31, []), (31, .aload_n 0, 32, [])],
  [(32, .getfield 41, 35, [10, 2, 6]), (35, .bipush 8, 37, []), (37, .iload_n 1, 38, []), (38, .imul, 39, []), (39, .iload_n 2, 40, []), (40, .iadd, 41, []), (41, .iload_n 3, 42, []), (42, .bastore, 43, []), (43, .iload 4, 45, []), (45, .ireturn, 46, [])]]
def pm_m98 : pm_Mt := (⟨"PlatformDoorsModel", "release", "(IIZ)I"⟩, prog_9_method_26_code, 5, (some .int), pm_c98, 1)
/-- 99: PlatformDoorsModel.obstruct(III)I -/
def pm_c99 : pm_Cd := [
  [(0, .iload_n 1, 1, []), (1, .iload_n 2, 2, []), (2, .invokestatic 147, 5, [2, 96]), (5, .ifCond .ne 14, 8, [19]), (8, .iload_n 3, 9, []), (9, .ifCond .lt 10, 12, [19]), (12, .iload_n 3, 13, []), (13, .sipush 1000, 16, [])],
  [(16, .if_icmp .le 5, 19, [21]), (19, .iconst (-1), 20, []), (20, .ireturn, 21, []), (21, .aload_n 0, 22, []), (22, .getfield 50, 25, [13, 2, 6]), (25, .bipush 8, 27, []), (27, .iload_n 1, 28, []), (28, .imul, 29, []), (29, .iload_n 2, 30, []), (30, .iadd, 31, []), (31, .iaload, 32, [])],
  [(32, .istore 4, 34, []), (34, .aload_n 0, 35, []), (35, .getfield 50, 38, [13, 2, 6]), (38, .bipush 8, 40, []), (40, .iload_n 1, 41, []), (41, .imul, 42, []), (42, .iload_n 2, 43, []), (43, .iadd, 44, []), (44, .iload_n 3, 45, []), (45, .iastore, 46, []), (46, .iload 4, 48, [])],
  [(48, .ireturn, 49, [])]]
def pm_m99 : pm_Mt := (⟨"PlatformDoorsModel", "obstruct", "(III)I"⟩, prog_9_method_27_code, 5, (some .int), pm_c99, 1)
/-- 100: PlatformDoorsModel.contact(IIII)I -/
def pm_c100 : pm_Cd := [
  [(0, .iload_n 1, 1, []), (1, .iload_n 2, 2, []), (2, .invokestatic 147, 5, [2, 96]), (5, .ifCond .ne 23, 8, [28]), (8, .iload_n 3, 9, []), (9, .ifCond .lt 19, 12, [28]), (12, .iload_n 3, 13, []), (13, .iconst 1, 14, []), (14, .if_icmp .gt 14, 17, [28])],
  [(17, .iload 4, 19, []), (19, .ifCond .lt 9, 22, [28]), (22, .iload 4, 24, []), (24, .iconst 2, 25, []), (25, .if_icmp .le 5, 28, [30]), (28, .iconst (-1), 29, []), (29, .ireturn, 30, []), (30, .iconst 2, 31, []), (31, .bipush 8, 33, [])],
  [(33, .iload_n 1, 34, []), (34, .imul, 35, []), (35, .iload_n 2, 36, []), (36, .iadd, 37, []), (37, .imul, 38, []), (38, .iload_n 3, 39, []), (39, .iadd, 40, []), (40, .istore 5, 42, []), (42, .aload_n 0, 43, []), (43, .getfield 59, 46, [16, 2, 6]), (46, .iload 5, 48, [])],
  [(48, .iaload, 49, []), (49, .istore 6, 51, []), (51, .aload_n 0, 52, []), (52, .getfield 59, 55, [16, 2, 6]), (55, .iload 5, 57, []), (57, .iload 4, 59, []), (59, .iastore, 60, []), (60, .iload 6, 62, []), (62, .ireturn, 63, [])]]
def pm_m100 : pm_Mt := (⟨"PlatformDoorsModel", "contact", "(IIII)I"⟩, prog_9_method_28_code, 7, (some .int), pm_c100, 1)
/-- 101: PlatformDoorsModel.noFrame(II)Z -/
def pm_c101 : pm_Cd := [
  [(0, .iload_n 1, 1, []), (1, .invokestatic 139, 4, [1, 91]), (4, .ifCond .ne 17, 7, [21]), (7, .iload_n 2, 8, []), (8, .ifCond .lt 13, 11, [21]), (11, .iload_n 2, 12, []), (12, .aload_n 0, 13, []), (13, .getfield 29, 16, [6, 2, 6])],
  [(16, .iload_n 1, 17, []), (17, .iaload, 18, []), (18, .if_icmp .lt 7, 21, [25]), (21, .iconst 1, 22, []), (22, .goto 4, 25, [26]), (25, .iconst 0, 26, []), (26, .ireturn, 27, [])]]
def pm_m101 : pm_Mt := (⟨"PlatformDoorsModel", "noFrame", "(II)Z"⟩, prog_9_method_29_code, 3, (some .boolean), pm_c101, 2)
/-- 102: PlatformDoorsModel.takeOut(II)V -/
def pm_c102 : pm_Cd := [
  [(0, .bipush 72, 2, []), (2, .iload_n 1, 3, []), (3, .imul, 4, []), (4, .bipush 6, 6, []), (6, .iload_n 2, 7, []), (7, .imul, 8, []), (8, .iadd, 9, []), (9, .istore_n 3, 10, []), (10, .iload_n 3, 11, []), (11, .bipush 6, 13, []), (13, .iadd, 14, []), (14, .bipush 72, 16, [])],
  [(16, .iload_n 1, 17, []), (17, .imul, 18, []), (18, .bipush 6, 20, []), (20, .aload_n 0, 21, []), (21, .getfield 29, 24, [6, 2, 6]), (24, .iload_n 1, 25, []), (25, .iaload, 26, []), (26, .imul, 27, []), (27, .iadd, 28, []), (28, .if_icmp .ge 24, 31, [52]), (31, .aload_n 0, 32, [])],
  [(32, .getfield 32, 35, [7, 2, 6]), (35, .iload_n 3, 36, []), (36, .aload_n 0, 37, []), (37, .getfield 32, 40, [7, 2, 6]), (40, .iload_n 3, 41, []), (41, .bipush 6, 43, []), (43, .iadd, 44, []), (44, .iaload, 45, []), (45, .iastore, 46, []), (46, .iinc 3 1, 49, [])],
  [(49, .goto (-39), 52, [10]), (52, .aload_n 0, 53, []), (53, .getfield 29, 56, [6, 2, 6]), (56, .iload_n 1, 57, []), (57, .dup2, 58, []), (58, .iaload, 59, []), (59, .iconst 1, 60, []), (60, .isub, 61, []), (61, .iastore, 62, []), (62, .return_, 63, [])]]
def pm_m102 : pm_Mt := (⟨"PlatformDoorsModel", "takeOut", "(II)V"⟩, prog_9_method_30_code, 4, none, pm_c102, 0)
/-- 103: PlatformDoorsModel.deliver(II)I -/
def pm_c103 : pm_Cd := [
  [(0, .aload_n 0, 1, []), (1, .iload_n 1, 2, []), (2, .iload_n 2, 3, []), (3, .invokevirtual 151, 6, [2, 6, 6, 101]), (6, .ifCond .eq 5, 9, [11]), (9, .iconst (-1), 10, []), (10, .ireturn, 11, []), (11, .bipush 72, 13, []), (13, .iload_n 1, 14, []), (14, .imul, 15, []), (15, .bipush 6, 17, [])],
  [(17, .iload_n 2, 18, []), (18, .imul, 19, []), (19, .iadd, 20, []), (20, .istore_n 3, 21, []), (21, .aload_n 0, 22, []), (22, .getfield 22, 25, [4, 2, 6]), (25, .iload_n 1, 26, []), (26, .baload, 27, []), (27, .ifCond .eq 21, 30, [48]), (30, .aload_n 0, 31, []), (31, .getfield 32, 34, [7, 2, 6])],
  [(34, .iload_n 3, 35, []), (35, .iaload, 36, []), (36, .aload_n 0, 37, []), (37, .getfield 26, 40, [5, 2, 6]), (40, .bipush 6, 42, []), (42, .iload_n 1, 43, []), (43, .imul, 44, []), (44, .iaload, 45, []), (45, .if_icmp .le 7, 48, [52])],
  [(48, .iconst 1, 49, []), (49, .goto 4, 52, [53]), (52, .iconst 0, 53, []), (53, .istore 4, 55, []), (55, .iconst 0, 56, []), (56, .istore 5, 58, []), (58, .iload 5, 60, []), (60, .bipush 6, 62, []), (62, .if_icmp .ge 35, 65, [97])],
  [(65, .iload 4, 67, []), (67, .ifCond .eq 30, 70, [97]), (70, .aload_n 0, 71, []), (71, .getfield 26, 74, [5, 2, 6]), (74, .bipush 6, 76, []), (76, .iload_n 1, 77, []), (77, .imul, 78, []), (78, .iload 5, 80, [])],
  [(80, .iadd, 81, []), (81, .aload_n 0, 82, []), (82, .getfield 32, 85, [7, 2, 6]), (85, .iload_n 3, 86, []), (86, .iload 5, 88, []), (88, .iadd, 89, []), (89, .iaload, 90, []), (90, .iastore, 91, []), (91, .iinc 5 1, 94, []), (94, .goto (-36), 97, [58])],
  [(97, .aload_n 0, 98, []), (98, .getfield 22, 101, [4, 2, 6]), (101, .iload_n 1, 102, []), (102, .iconst 1, 103, []), (103, .bastore, 104, []), (104, .aload_n 0, 105, []), (105, .iload_n 1, 106, []), (106, .iload_n 2, 107, []), (107, .invokevirtual 154, 110, [2, 6, 6, 102]), (110, .iload 4, 112, [])],
  [(112, .ifCond .eq 7, 115, [119]), (115, .iconst 1, 116, []), (116, .goto 4, 119, [120]), (119, .iconst 0, 120, []), (120, .ireturn, 121, [])]]
def pm_m103 : pm_Mt := (⟨"PlatformDoorsModel", "deliver", "(II)I"⟩, prog_9_method_31_code, 6, (some .int), pm_c103, 1)
/-- 104: PlatformDoorsModel.drop(II)I -/
def pm_c104 : pm_Cd := [
  [(0, .aload_n 0, 1, []), (1, .iload_n 1, 2, []), (2, .iload_n 2, 3, []), (3, .invokevirtual 151, 6, [2, 6, 6, 101]), (6, .ifCond .eq 5, 9, [11]), (9, .iconst (-1), 10, []), (10, .ireturn, 11, []), (11, .aload_n 0, 12, []), (12, .iload_n 1, 13, []), (13, .iload_n 2, 14, []), (14, .invokevirtual 154, 17, [2, 6, 6, 102])],
  [(17, .aload_n 0, 18, []), (18, .getfield 29, 21, [6, 2, 6]), (21, .iload_n 1, 22, []), (22, .iaload, 23, []), (23, .ireturn, 24, [])]]
def pm_m104 : pm_Mt := (⟨"PlatformDoorsModel", "drop", "(II)I"⟩, prog_9_method_32_code, 3, (some .int), pm_c104, 1)
/-- 105: PlatformDoorsModel.twin(II)I -/
def pm_c105 : pm_Cd := [
  [(0, .aload_n 0, 1, []), (1, .iload_n 1, 2, []), (2, .iload_n 2, 3, []), (3, .invokevirtual 151, 6, [2, 6, 6, 101]), (6, .ifCond .ne 14, 9, [20]), (9, .aload_n 0, 10, []), (10, .getfield 29, 13, [6, 2, 6]), (13, .iload_n 1, 14, []), (14, .iaload, 15, []), (15, .bipush 12, 17, [])],
  [(17, .if_icmp .ne 5, 20, [22]), (20, .iconst (-1), 21, []), (21, .ireturn, 22, []), (22, .bipush 72, 24, []), (24, .iload_n 1, 25, []), (25, .imul, 26, []), (26, .bipush 6, 28, []), (28, .aload_n 0, 29, []), (29, .getfield 29, 32, [6, 2, 6])],
  [(32, .iload_n 1, 33, []), (33, .iaload, 34, []), (34, .imul, 35, []), (35, .iadd, 36, []), (36, .iconst 5, 37, []), (37, .iadd, 38, []), (38, .istore_n 3, 39, []), (39, .iload_n 3, 40, []), (40, .bipush 72, 42, []), (42, .iload_n 1, 43, []), (43, .imul, 44, []), (44, .bipush 6, 46, []), (46, .iload_n 2, 47, []), (47, .imul, 48, [])],
  [(48, .iadd, 49, []), (49, .iconst 5, 50, []), (50, .iadd, 51, []), (51, .if_icmp .le 24, 54, [75]), (54, .aload_n 0, 55, []), (55, .getfield 32, 58, [7, 2, 6]), (58, .iload_n 3, 59, []), (59, .aload_n 0, 60, []), (60, .getfield 32, 63, [7, 2, 6]), (63, .iload_n 3, 64, [])],
  [(64, .bipush 6, 66, []), (66, .isub, 67, []), (67, .iaload, 68, []), (68, .iastore, 69, []), (69, .iinc 3 (-1), 72, []), (72, .goto (-33), 75, [39]), (75, .aload_n 0, 76, []), (76, .getfield 29, 79, [6, 2, 6]), (79, .iload_n 1, 80, [])],
  [(80, .dup2, 81, []), (81, .iaload, 82, []), (82, .iconst 1, 83, []), (83, .iadd, 84, []), (84, .iastore, 85, []), (85, .aload_n 0, 86, []), (86, .getfield 29, 89, [6, 2, 6]), (89, .iload_n 1, 90, []), (90, .iaload, 91, []), (91, .ireturn, 92, [])]]
def pm_m105 : pm_Mt := (⟨"PlatformDoorsModel", "twin", "(II)I"⟩, prog_9_method_33_code, 4, (some .int), pm_c105, 1)
/-- 106: PlatformDoorsModel.frame(III)I -/
def pm_c106 : pm_Cd := [
  [(0, .aload_n 0, 1, []), (1, .iload_n 1, 2, []), (2, .iload_n 2, 3, []), (3, .invokevirtual 151, 6, [2, 6, 6, 101]), (6, .ifCond .ne 12, 9, [18]), (9, .iload_n 3, 10, []), (10, .ifCond .lt 8, 13, [18]), (13, .iload_n 3, 14, []), (14, .iconst 5, 15, []), (15, .if_icmp .le 7, 18, [22])],
  [(18, .iconst (-1), 19, []), (19, .goto 19, 22, [38]), (22, .aload_n 0, 23, []), (23, .getfield 32, 26, [7, 2, 6]), (26, .bipush 72, 28, []), (28, .iload_n 1, 29, []), (29, .imul, 30, []), (30, .bipush 6, 32, [])],
  [(32, .iload_n 2, 33, []), (33, .imul, 34, []), (34, .iadd, 35, []), (35, .iload_n 3, 36, []), (36, .iadd, 37, []), (37, .iaload, 38, []), (38, .ireturn, 39, [])]]
def pm_m106 : pm_Mt := (⟨"PlatformDoorsModel", "frame", "(III)I"⟩, prog_9_method_34_code, 4, (some .int), pm_c106, 1)
/-- 107: PlatformDoorsModel.leaf(III)I -/
def pm_c107 : pm_Cd := [
  [(0, .iload_n 1, 1, []), (1, .iload_n 2, 2, []), (2, .invokestatic 147, 5, [2, 96]), (5, .ifCond .eq 5, 8, [10]), (8, .iconst (-1), 9, []), (9, .ireturn, 10, []), (10, .bipush 8, 12, []), (12, .iload_n 1, 13, []), (13, .imul, 14, []), (14, .iload_n 2, 15, []), (15, .iadd, 16, [])],
  [(16, .istore 4, 18, []), (18, .iload_n 3, 19, []), (19, .tableswitch 139 0 7 #[45, 53, 69, 84, 99, 107, 123, 131], 64, [158, 64, 72, 88, 103, 118, 126, 142, 150])],
  [],
  [],
  [(64, .aload_n 0, 65, []), (65, .getfield 35, 68, [8, 2, 6]), (68, .iload 4, 70, []), (70, .iaload, 71, []), (71, .ireturn, 72, []), (72, .aload_n 0, 73, []), (73, .getfield 44, 76, [11, 2, 6]), (76, .iload 4, 78, []), (78, .baload, 79, []), (79, .ifCond .eq 7, 82, [86])],
  [(82, .iconst 1, 83, []), (83, .goto 4, 86, [87]), (86, .iconst 0, 87, []), (87, .ireturn, 88, []), (88, .aload_n 0, 89, []), (89, .iload 4, 91, []), (91, .invokevirtual 92, 94, [1, 6, 6, 79]), (94, .ifCond .eq 7, 97, [101])],
  [(97, .iconst 1, 98, []), (98, .goto 4, 101, [102]), (101, .iconst 0, 102, []), (102, .ireturn, 103, []), (103, .aload_n 0, 104, []), (104, .iload 4, 106, []), (106, .invokevirtual 100, 109, [1, 6, 6, 81]), (109, .ifCond .eq 7, 112, [116])],
  [(112, .iconst 1, 113, []), (113, .goto 4, 116, [117]), (116, .iconst 0, 117, []), (117, .ireturn, 118, []), (118, .aload_n 0, 119, []), (119, .getfield 53, 122, [14, 2, 6]), (122, .iload 4, 124, []), (124, .iaload, 125, []), (125, .ireturn, 126, []), (126, .aload_n 0, 127, []), (127, .getfield 47, 130, [12, 2, 6])],
  [(130, .iload 4, 132, []), (132, .baload, 133, []), (133, .ifCond .eq 7, 136, [140]), (136, .iconst 1, 137, []), (137, .goto 4, 140, [141]), (140, .iconst 0, 141, []), (141, .ireturn, 142, []), (142, .aload_n 0, 143, []), (143, .getfield 56, 146, [15, 2, 6])],
  [(146, .iload 4, 148, []), (148, .iaload, 149, []), (149, .ireturn, 150, []), (150, .aload_n 0, 151, []), (151, .getfield 50, 154, [13, 2, 6]), (154, .iload 4, 156, []), (156, .iaload, 157, []), (157, .ireturn, 158, []), (158, .iconst (-1), 159, []), (159, .ireturn, 160, [])]]
def pm_m107 : pm_Mt := (⟨"PlatformDoorsModel", "leaf", "(III)I"⟩, prog_9_method_35_code, 5, (some .int), pm_c107, 1)
/-- 108: PlatformDoorsModel.told(II)I -/
def pm_c108 : pm_Cd := [
  [(0, .iload_n 1, 1, []), (1, .invokestatic 139, 4, [1, 91]), (4, .ifCond .eq 5, 7, [9]), (7, .iconst (-1), 8, []), (8, .ireturn, 9, []), (9, .iload_n 2, 10, []), (10, .tableswitch 123 0 7 #[46, 53, 60, 66, 89, 96, 102, 116], 56, [133, 56, 63, 70, 76, 99, 106, 112, 126])],
  [],
  [],
  [(56, .aload_n 0, 57, []), (57, .getfield 7, 60, [0, 2, 6]), (60, .iload_n 1, 61, []), (61, .iaload, 62, []), (62, .ireturn, 63, []), (63, .aload_n 0, 64, [])],
  [(64, .getfield 13, 67, [1, 2, 6]), (67, .iload_n 1, 68, []), (68, .iaload, 69, []), (69, .ireturn, 70, []), (70, .aload_n 0, 71, []), (71, .iload_n 1, 72, []), (72, .invokevirtual 88, 75, [1, 6, 6, 75]), (75, .ireturn, 76, []), (76, .aload_n 0, 77, []), (77, .getfield 22, 80, [4, 2, 6])],
  [(80, .iload_n 1, 81, []), (81, .baload, 82, []), (82, .ifCond .eq 15, 85, [97]), (85, .aload_n 0, 86, []), (86, .getfield 26, 89, [5, 2, 6]), (89, .bipush 6, 91, []), (91, .iload_n 1, 92, []), (92, .imul, 93, []), (93, .iaload, 94, []), (94, .goto 4, 97, [98])],
  [(97, .iconst 0, 98, []), (98, .ireturn, 99, []), (99, .aload_n 0, 100, []), (100, .getfield 29, 103, [6, 2, 6]), (103, .iload_n 1, 104, []), (104, .iaload, 105, []), (105, .ireturn, 106, []), (106, .aload_n 0, 107, []), (107, .iload_n 1, 108, []), (108, .invokevirtual 107, 111, [1, 6, 6, 82]), (111, .ireturn, 112, [])],
  [(112, .aload_n 0, 113, []), (113, .iload_n 1, 114, []), (114, .invokevirtual 125, 117, [1, 6, 6, 83]), (117, .ifCond .eq 7, 120, [124]), (120, .iconst 1, 121, []), (121, .goto 4, 124, [125]), (124, .iconst 0, 125, []), (125, .ireturn, 126, []), (126, .aload_n 0, 127, []), (127, .getfield 19, 130, [3, 2, 6])],
  [(130, .iload_n 1, 131, []), (131, .iaload, 132, []), (132, .ireturn, 133, []), (133, .iconst (-1), 134, []), (134, .ireturn, 135, [])]]
def pm_m108 : pm_Mt := (⟨"PlatformDoorsModel", "told", "(II)I"⟩, prog_9_method_36_code, 3, (some .int), pm_c108, 1)
/-- 109: PlatformDoorsModel.mayGo()Z -/
def pm_c109 : pm_Cd := [
  [(0, .aload_n 0, 1, []), (1, .iconst 0, 2, []), (2, .invokevirtual 110, 5, [1, 6, 6, 76]), (5, .ifCond .eq 36, 8, [41]), (8, .aload_n 0, 9, []), (9, .getfield 26, 12, [5, 2, 6]), (12, .iconst 4, 13, []), (13, .iaload, 14, []), (14, .iconst 1, 15, []), (15, .if_icmp .ne 26, 18, [41])],
  [(18, .aload_n 0, 19, []), (19, .getfield 13, 22, [1, 2, 6]), (22, .iconst 0, 23, []), (23, .iaload, 24, []), (24, .ifCond .ne 17, 27, [41]), (27, .aload_n 0, 28, []), (28, .iconst 0, 29, []), (29, .invokevirtual 107, 32, [1, 6, 6, 82])],
  [(32, .bipush 8, 34, []), (34, .if_icmp .ne 7, 37, [41]), (37, .iconst 1, 38, []), (38, .goto 4, 41, [42]), (41, .iconst 0, 42, []), (42, .ireturn, 43, [])]]
def pm_m109 : pm_Mt := (⟨"PlatformDoorsModel", "mayGo", "()Z"⟩, prog_9_method_37_code, 1, (some .boolean), pm_c109, 2)
/-- 110: PlatformDoorsModel.breaches()I -/
def pm_c110 : pm_Cd := [
  [(0, .aload_n 0, 1, []), (1, .getfield 85, 4, [23, 0, 6]), (4, .ireturn, 5, [])]]
def pm_m110 : pm_Mt := (⟨"PlatformDoorsModel", "breaches", "()I"⟩, prog_9_method_38_code, 1, (some .int), pm_c110, 1)
def pm_cL : pm_Cd := [
  [(0, .new 7, 3, [0]), (3, .dup, 4, []), (4, .invokespecial 9, 7, [0, 46]), (7, .astore_n 1, 8, []), (8, .new 10, 11, [6]), (11, .dup, 12, []), (12, .invokespecial 12, 15, [0, 73]), (15, .astore_n 2, 16, [])],
  [(16, .iconst 0, 17, []), (17, .istore_n 3, 18, []), (18, .iload_n 3, 19, []), (19, .aload_n 0, 20, []), (20, .arraylength, 21, []), (21, .iconst 5, 22, []), (22, .isub, 23, []), (23, .if_icmp .gt 696, 26, [719]), (26, .aload_n 0, 27, []), (27, .iload_n 3, 28, []), (28, .iaload, 29, []), (29, .bipush 31, 31, []), (31, .iand, 32, [])],
  [(32, .tableswitch 681 0 16 #[84, 95, 128, 161, 184, 223, 282, 341, 384, 437, 470, 503, 536, 579, 622, 655, 668], 116, [713, 116, 127, 160, 193, 216, 255, 314, 373, 416, 469, 502, 535, 568, 611, 654, 687, 700])],
  [],
  [],
  [],
  [],
  [(116, .aload_n 1, 117, []), (117, .invokevirtual 13, 120, [0, 0, 0, 47]), (120, .aload_n 2, 121, []), (121, .invokevirtual 16, 124, [0, 6, 6, 74]), (124, .goto 589, 127, [713]), (127, .aload_n 1, 128, [])],
  [(128, .aload_n 0, 129, []), (129, .iload_n 3, 130, []), (130, .iconst 1, 131, []), (131, .iadd, 132, []), (132, .iaload, 133, []), (133, .aload_n 0, 134, []), (134, .iload_n 3, 135, []), (135, .iconst 2, 136, []), (136, .iadd, 137, []), (137, .iaload, 138, []), (138, .invokevirtual 17, 141, [2, 0, 0, 48]), (141, .aload_n 2, 142, []), (142, .aload_n 0, 143, []), (143, .iload_n 3, 144, [])],
  [(144, .iconst 1, 145, []), (145, .iadd, 146, []), (146, .iaload, 147, []), (147, .aload_n 0, 148, []), (148, .iload_n 3, 149, []), (149, .iconst 2, 150, []), (150, .iadd, 151, []), (151, .iaload, 152, []), (152, .invokevirtual 21, 155, [2, 6, 6, 92]), (155, .if_icmp .eq 558, 158, [713]), (158, .iconst 0, 159, []), (159, .ireturn, 160, [])],
  [(160, .aload_n 1, 161, []), (161, .aload_n 0, 162, []), (162, .iload_n 3, 163, []), (163, .iconst 1, 164, []), (164, .iadd, 165, []), (165, .iaload, 166, []), (166, .aload_n 0, 167, []), (167, .iload_n 3, 168, []), (168, .iconst 2, 169, []), (169, .iadd, 170, []), (170, .iaload, 171, []), (171, .invokevirtual 22, 174, [2, 0, 0, 49]), (174, .aload_n 2, 175, []), (175, .aload_n 0, 176, [])],
  [(176, .iload_n 3, 177, []), (177, .iconst 1, 178, []), (178, .iadd, 179, []), (179, .iaload, 180, []), (180, .aload_n 0, 181, []), (181, .iload_n 3, 182, []), (182, .iconst 2, 183, []), (183, .iadd, 184, []), (184, .iaload, 185, []), (185, .invokevirtual 25, 188, [2, 6, 6, 93]), (188, .if_icmp .eq 525, 191, [713]), (191, .iconst 0, 192, [])],
  [(192, .ireturn, 193, []), (193, .aload_n 1, 194, []), (194, .aload_n 0, 195, []), (195, .iload_n 3, 196, []), (196, .iconst 1, 197, []), (197, .iadd, 198, []), (198, .iaload, 199, []), (199, .invokevirtual 26, 202, [1, 0, 0, 50]), (202, .aload_n 2, 203, []), (203, .aload_n 0, 204, []), (204, .iload_n 3, 205, []), (205, .iconst 1, 206, []), (206, .iadd, 207, []), (207, .iaload, 208, [])],
  [(208, .invokevirtual 30, 211, [1, 6, 6, 94]), (211, .if_icmp .eq 502, 214, [713]), (214, .iconst 0, 215, []), (215, .ireturn, 216, []), (216, .aload_n 1, 217, []), (217, .aload_n 0, 218, []), (218, .iload_n 3, 219, []), (219, .iconst 1, 220, []), (220, .iadd, 221, []), (221, .iaload, 222, []), (222, .ifCond .eq 7, 225, [229])],
  [(225, .iconst 1, 226, []), (226, .goto 4, 229, [230]), (229, .iconst 0, 230, []), (230, .invokevirtual 31, 233, [1, 0, 0, 51]), (233, .aload_n 2, 234, []), (234, .aload_n 0, 235, []), (235, .iload_n 3, 236, []), (236, .iconst 1, 237, []), (237, .iadd, 238, []), (238, .iaload, 239, []), (239, .ifCond .eq 7, 242, [246])],
  [(242, .iconst 1, 243, []), (243, .goto 4, 246, [247]), (246, .iconst 0, 247, []), (247, .invokevirtual 35, 250, [1, 6, 6, 95]), (250, .if_icmp .eq 463, 253, [713]), (253, .iconst 0, 254, []), (254, .ireturn, 255, []), (255, .aload_n 1, 256, [])],
  [(256, .aload_n 0, 257, []), (257, .iload_n 3, 258, []), (258, .iconst 1, 259, []), (259, .iadd, 260, []), (260, .iaload, 261, []), (261, .aload_n 0, 262, []), (262, .iload_n 3, 263, []), (263, .iconst 2, 264, []), (264, .iadd, 265, []), (265, .iaload, 266, []), (266, .aload_n 0, 267, []), (267, .iload_n 3, 268, []), (268, .iconst 3, 269, []), (269, .iadd, 270, []), (270, .iaload, 271, []), (271, .ifCond .eq 7, 274, [278])],
  [(274, .iconst 1, 275, []), (275, .goto 4, 278, [279]), (278, .iconst 0, 279, []), (279, .invokevirtual 36, 282, [3, 0, 0, 52]), (282, .aload_n 2, 283, []), (283, .aload_n 0, 284, []), (284, .iload_n 3, 285, []), (285, .iconst 1, 286, []), (286, .iadd, 287, []), (287, .iaload, 288, [])],
  [(288, .aload_n 0, 289, []), (289, .iload_n 3, 290, []), (290, .iconst 2, 291, []), (291, .iadd, 292, []), (292, .iaload, 293, []), (293, .aload_n 0, 294, []), (294, .iload_n 3, 295, []), (295, .iconst 3, 296, []), (296, .iadd, 297, []), (297, .iaload, 298, []), (298, .ifCond .eq 7, 301, [305]), (301, .iconst 1, 302, []), (302, .goto 4, 305, [306])],
  [(305, .iconst 0, 306, []), (306, .invokevirtual 40, 309, [3, 6, 6, 97]), (309, .if_icmp .eq 404, 312, [713]), (312, .iconst 0, 313, []), (313, .ireturn, 314, []), (314, .aload_n 1, 315, []), (315, .aload_n 0, 316, []), (316, .iload_n 3, 317, []), (317, .iconst 1, 318, []), (318, .iadd, 319, []), (319, .iaload, 320, [])],
  [(320, .aload_n 0, 321, []), (321, .iload_n 3, 322, []), (322, .iconst 2, 323, []), (323, .iadd, 324, []), (324, .iaload, 325, []), (325, .aload_n 0, 326, []), (326, .iload_n 3, 327, []), (327, .iconst 3, 328, []), (328, .iadd, 329, []), (329, .iaload, 330, []), (330, .ifCond .eq 7, 333, [337]), (333, .iconst 1, 334, []), (334, .goto 4, 337, [338])],
  [(337, .iconst 0, 338, []), (338, .invokevirtual 41, 341, [3, 0, 0, 53]), (341, .aload_n 2, 342, []), (342, .aload_n 0, 343, []), (343, .iload_n 3, 344, []), (344, .iconst 1, 345, []), (345, .iadd, 346, []), (346, .iaload, 347, []), (347, .aload_n 0, 348, []), (348, .iload_n 3, 349, []), (349, .iconst 2, 350, []), (350, .iadd, 351, []), (351, .iaload, 352, [])],
  [(352, .aload_n 0, 353, []), (353, .iload_n 3, 354, []), (354, .iconst 3, 355, []), (355, .iadd, 356, []), (356, .iaload, 357, []), (357, .ifCond .eq 7, 360, [364]), (360, .iconst 1, 361, []), (361, .goto 4, 364, [365]), (364, .iconst 0, 365, []), (365, .invokevirtual 44, 368, [3, 6, 6, 98])],
  [(368, .if_icmp .eq 345, 371, [713]), (371, .iconst 0, 372, []), (372, .ireturn, 373, []), (373, .aload_n 1, 374, []), (374, .aload_n 0, 375, []), (375, .iload_n 3, 376, []), (376, .iconst 1, 377, []), (377, .iadd, 378, []), (378, .iaload, 379, []), (379, .aload_n 0, 380, []), (380, .iload_n 3, 381, []), (381, .iconst 2, 382, []), (382, .iadd, 383, []), (383, .iaload, 384, [])],
  [(384, .aload_n 0, 385, []), (385, .iload_n 3, 386, []), (386, .iconst 3, 387, []), (387, .iadd, 388, []), (388, .iaload, 389, []), (389, .invokevirtual 45, 392, [3, 0, 0, 54]), (392, .aload_n 2, 393, []), (393, .aload_n 0, 394, []), (394, .iload_n 3, 395, []), (395, .iconst 1, 396, []), (396, .iadd, 397, []), (397, .iaload, 398, []), (398, .aload_n 0, 399, []), (399, .iload_n 3, 400, [])],
  [(400, .iconst 2, 401, []), (401, .iadd, 402, []), (402, .iaload, 403, []), (403, .aload_n 0, 404, []), (404, .iload_n 3, 405, []), (405, .iconst 3, 406, []), (406, .iadd, 407, []), (407, .iaload, 408, []), (408, .invokevirtual 49, 411, [3, 6, 6, 99]), (411, .if_icmp .eq 302, 414, [713]), (414, .iconst 0, 415, []), (415, .ireturn, 416, [])],
  [(416, .aload_n 1, 417, []), (417, .aload_n 0, 418, []), (418, .iload_n 3, 419, []), (419, .iconst 1, 420, []), (420, .iadd, 421, []), (421, .iaload, 422, []), (422, .aload_n 0, 423, []), (423, .iload_n 3, 424, []), (424, .iconst 2, 425, []), (425, .iadd, 426, []), (426, .iaload, 427, []), (427, .aload_n 0, 428, []), (428, .iload_n 3, 429, []), (429, .iconst 3, 430, []), (430, .iadd, 431, []), (431, .iaload, 432, [])],
  [(432, .aload_n 0, 433, []), (433, .iload_n 3, 434, []), (434, .iconst 4, 435, []), (435, .iadd, 436, []), (436, .iaload, 437, []), (437, .invokevirtual 50, 440, [4, 0, 0, 55]), (440, .aload_n 2, 441, []), (441, .aload_n 0, 442, []), (442, .iload_n 3, 443, []), (443, .iconst 1, 444, []), (444, .iadd, 445, []), (445, .iaload, 446, []), (446, .aload_n 0, 447, []), (447, .iload_n 3, 448, [])],
  [(448, .iconst 2, 449, []), (449, .iadd, 450, []), (450, .iaload, 451, []), (451, .aload_n 0, 452, []), (452, .iload_n 3, 453, []), (453, .iconst 3, 454, []), (454, .iadd, 455, []), (455, .iaload, 456, []), (456, .aload_n 0, 457, []), (457, .iload_n 3, 458, []), (458, .iconst 4, 459, []), (459, .iadd, 460, []), (460, .iaload, 461, []), (461, .invokevirtual 54, 464, [4, 6, 6, 100])],
  [(464, .if_icmp .eq 249, 467, [713]), (467, .iconst 0, 468, []), (468, .ireturn, 469, []), (469, .aload_n 1, 470, []), (470, .aload_n 0, 471, []), (471, .iload_n 3, 472, []), (472, .iconst 1, 473, []), (473, .iadd, 474, []), (474, .iaload, 475, []), (475, .aload_n 0, 476, []), (476, .iload_n 3, 477, []), (477, .iconst 2, 478, []), (478, .iadd, 479, []), (479, .iaload, 480, [])],
  [(480, .invokevirtual 55, 483, [2, 0, 0, 56]), (483, .aload_n 2, 484, []), (484, .aload_n 0, 485, []), (485, .iload_n 3, 486, []), (486, .iconst 1, 487, []), (487, .iadd, 488, []), (488, .iaload, 489, []), (489, .aload_n 0, 490, []), (490, .iload_n 3, 491, []), (491, .iconst 2, 492, []), (492, .iadd, 493, []), (493, .iaload, 494, []), (494, .invokevirtual 58, 497, [2, 6, 6, 103])],
  [(497, .if_icmp .eq 216, 500, [713]), (500, .iconst 0, 501, []), (501, .ireturn, 502, []), (502, .aload_n 1, 503, []), (503, .aload_n 0, 504, []), (504, .iload_n 3, 505, []), (505, .iconst 1, 506, []), (506, .iadd, 507, []), (507, .iaload, 508, []), (508, .aload_n 0, 509, []), (509, .iload_n 3, 510, []), (510, .iconst 2, 511, []), (511, .iadd, 512, [])],
  [(512, .iaload, 513, []), (513, .invokevirtual 59, 516, [2, 0, 0, 57]), (516, .aload_n 2, 517, []), (517, .aload_n 0, 518, []), (518, .iload_n 3, 519, []), (519, .iconst 1, 520, []), (520, .iadd, 521, []), (521, .iaload, 522, []), (522, .aload_n 0, 523, []), (523, .iload_n 3, 524, []), (524, .iconst 2, 525, []), (525, .iadd, 526, []), (526, .iaload, 527, []), (527, .invokevirtual 62, 530, [2, 6, 6, 104])],
  [(530, .if_icmp .eq 183, 533, [713]), (533, .iconst 0, 534, []), (534, .ireturn, 535, []), (535, .aload_n 1, 536, []), (536, .aload_n 0, 537, []), (537, .iload_n 3, 538, []), (538, .iconst 1, 539, []), (539, .iadd, 540, []), (540, .iaload, 541, []), (541, .aload_n 0, 542, []), (542, .iload_n 3, 543, []), (543, .iconst 2, 544, [])],
  [(544, .iadd, 545, []), (545, .iaload, 546, []), (546, .invokevirtual 63, 549, [2, 0, 0, 58]), (549, .aload_n 2, 550, []), (550, .aload_n 0, 551, []), (551, .iload_n 3, 552, []), (552, .iconst 1, 553, []), (553, .iadd, 554, []), (554, .iaload, 555, []), (555, .aload_n 0, 556, []), (556, .iload_n 3, 557, []), (557, .iconst 2, 558, []), (558, .iadd, 559, []), (559, .iaload, 560, [])],
  [(560, .invokevirtual 66, 563, [2, 6, 6, 105]), (563, .if_icmp .eq 150, 566, [713]), (566, .iconst 0, 567, []), (567, .ireturn, 568, []), (568, .aload_n 1, 569, []), (569, .aload_n 0, 570, []), (570, .iload_n 3, 571, []), (571, .iconst 1, 572, []), (572, .iadd, 573, []), (573, .iaload, 574, []), (574, .aload_n 0, 575, []), (575, .iload_n 3, 576, [])],
  [(576, .iconst 2, 577, []), (577, .iadd, 578, []), (578, .iaload, 579, []), (579, .aload_n 0, 580, []), (580, .iload_n 3, 581, []), (581, .iconst 3, 582, []), (582, .iadd, 583, []), (583, .iaload, 584, []), (584, .invokevirtual 67, 587, [3, 0, 0, 59]), (587, .aload_n 2, 588, []), (588, .aload_n 0, 589, []), (589, .iload_n 3, 590, []), (590, .iconst 1, 591, []), (591, .iadd, 592, [])],
  [(592, .iaload, 593, []), (593, .aload_n 0, 594, []), (594, .iload_n 3, 595, []), (595, .iconst 2, 596, []), (596, .iadd, 597, []), (597, .iaload, 598, []), (598, .aload_n 0, 599, []), (599, .iload_n 3, 600, []), (600, .iconst 3, 601, []), (601, .iadd, 602, []), (602, .iaload, 603, []), (603, .invokevirtual 70, 606, [3, 6, 6, 106]), (606, .if_icmp .eq 107, 609, [713])],
  [(609, .iconst 0, 610, []), (610, .ireturn, 611, []), (611, .aload_n 1, 612, []), (612, .aload_n 0, 613, []), (613, .iload_n 3, 614, []), (614, .iconst 1, 615, []), (615, .iadd, 616, []), (616, .iaload, 617, []), (617, .aload_n 0, 618, []), (618, .iload_n 3, 619, []), (619, .iconst 2, 620, []), (620, .iadd, 621, []), (621, .iaload, 622, []), (622, .aload_n 0, 623, []), (623, .iload_n 3, 624, [])],
  [(624, .iconst 3, 625, []), (625, .iadd, 626, []), (626, .iaload, 627, []), (627, .invokevirtual 71, 630, [3, 0, 0, 60]), (630, .aload_n 2, 631, []), (631, .aload_n 0, 632, []), (632, .iload_n 3, 633, []), (633, .iconst 1, 634, []), (634, .iadd, 635, []), (635, .iaload, 636, []), (636, .aload_n 0, 637, []), (637, .iload_n 3, 638, []), (638, .iconst 2, 639, []), (639, .iadd, 640, [])],
  [(640, .iaload, 641, []), (641, .aload_n 0, 642, []), (642, .iload_n 3, 643, []), (643, .iconst 3, 644, []), (644, .iadd, 645, []), (645, .iaload, 646, []), (646, .invokevirtual 74, 649, [3, 6, 6, 107]), (649, .if_icmp .eq 64, 652, [713]), (652, .iconst 0, 653, []), (653, .ireturn, 654, []), (654, .aload_n 1, 655, []), (655, .aload_n 0, 656, [])],
  [(656, .iload_n 3, 657, []), (657, .iconst 1, 658, []), (658, .iadd, 659, []), (659, .iaload, 660, []), (660, .aload_n 0, 661, []), (661, .iload_n 3, 662, []), (662, .iconst 2, 663, []), (663, .iadd, 664, []), (664, .iaload, 665, []), (665, .invokevirtual 75, 668, [2, 0, 0, 61]), (668, .aload_n 2, 669, []), (669, .aload_n 0, 670, []), (670, .iload_n 3, 671, []), (671, .iconst 1, 672, [])],
  [(672, .iadd, 673, []), (673, .iaload, 674, []), (674, .aload_n 0, 675, []), (675, .iload_n 3, 676, []), (676, .iconst 2, 677, []), (677, .iadd, 678, []), (678, .iaload, 679, []), (679, .invokevirtual 78, 682, [2, 6, 6, 108]), (682, .if_icmp .eq 31, 685, [713]), (685, .iconst 0, 686, []), (686, .ireturn, 687, []), (687, .aload_n 1, 688, [])],
  [(688, .invokevirtual 79, 691, [0, 0, 0, 62]), (691, .aload_n 2, 692, []), (692, .invokevirtual 83, 695, [0, 6, 6, 109]), (695, .if_icmp .eq 18, 698, [713]), (698, .iconst 0, 699, []), (699, .ireturn, 700, []), (700, .aload_n 1, 701, []), (701, .invokevirtual 84, 704, [0, 0, 0, 63])],
  [(704, .aload_n 2, 705, []), (705, .invokevirtual 88, 708, [0, 6, 6, 110]), (708, .if_icmp .eq 5, 711, [713]), (711, .iconst 0, 712, []), (712, .ireturn, 713, []), (713, .iinc 3 5, 716, []), (716, .goto (-698), 719, [18]), (719, .iconst 1, 720, [])],
  [(720, .ireturn, 721, [])]]
def pm_mL : pm_Mt := (⟨"PlatformDoorsLaw", "law", "([I)Z"⟩, code, 4, (some .boolean), pm_cL, 2)
def pm_MT : List pm_Mt := [pm_m0, pm_m1, pm_m2, pm_m3, pm_m4, pm_m5, pm_m6, pm_m7, pm_m8, pm_m9, pm_m10, pm_m11, pm_m12, pm_m13, pm_m14, pm_m15, pm_m16, pm_m17, pm_m18, pm_m19, pm_m20, pm_m21, pm_m22, pm_m23, pm_m24, pm_m25, pm_m26, pm_m27, pm_m28, pm_m29, pm_m30, pm_m31, pm_m32, pm_m33, pm_m34, pm_m35, pm_m36, pm_m37, pm_m38, pm_m39, pm_m40, pm_m41, pm_m42, pm_m43, pm_m44, pm_m45, pm_m46, pm_m47, pm_m48, pm_m49, pm_m50, pm_m51, pm_m52, pm_m53, pm_m54, pm_m55, pm_m56, pm_m57, pm_m58, pm_m59, pm_m60, pm_m61, pm_m62, pm_m63, pm_m64, pm_m65, pm_m66, pm_m67, pm_m68, pm_m69, pm_m70, pm_m71, pm_m72, pm_m73, pm_m74, pm_m75, pm_m76, pm_m77, pm_m78, pm_m79, pm_m80, pm_m81, pm_m82, pm_m83, pm_m84, pm_m85, pm_m86, pm_m87, pm_m88, pm_m89, pm_m90, pm_m91, pm_m92, pm_m93, pm_m94, pm_m95, pm_m96, pm_m97, pm_m98, pm_m99, pm_m100, pm_m101, pm_m102, pm_m103, pm_m104, pm_m105, pm_m106, pm_m107, pm_m108, pm_m109, pm_m110]
end
section
/-! Every row of code is what the bytes decode to, and its words are in the tables (by computation). -/
theorem pm_k0 : pm_okm pm_MT pm_m0 = true := by decide +kernel
theorem pm_k1 : pm_okm pm_MT pm_m1 = true := by decide +kernel
theorem pm_k2 : pm_okm pm_MT pm_m2 = true := by decide +kernel
theorem pm_k3 : pm_okm pm_MT pm_m3 = true := by decide +kernel
theorem pm_k4 : pm_okm pm_MT pm_m4 = true := by decide +kernel
theorem pm_k5 : pm_okm pm_MT pm_m5 = true := by decide +kernel
theorem pm_k6 : pm_okm pm_MT pm_m6 = true := by decide +kernel
theorem pm_k7 : pm_okm pm_MT pm_m7 = true := by decide +kernel
theorem pm_k8 : pm_okm pm_MT pm_m8 = true := by decide +kernel
theorem pm_k9 : pm_okm pm_MT pm_m9 = true := by decide +kernel
theorem pm_k10 : pm_okm pm_MT pm_m10 = true := by decide +kernel
theorem pm_k11 : pm_okm pm_MT pm_m11 = true := by decide +kernel
theorem pm_k12 : pm_okm pm_MT pm_m12 = true := by decide +kernel
theorem pm_k13 : pm_okm pm_MT pm_m13 = true := by decide +kernel
theorem pm_k14 : pm_okm pm_MT pm_m14 = true := by decide +kernel
theorem pm_k15 : pm_okm pm_MT pm_m15 = true := by decide +kernel
theorem pm_k16 : pm_okm pm_MT pm_m16 = true := by decide +kernel
theorem pm_k17 : pm_okm pm_MT pm_m17 = true := by decide +kernel
theorem pm_k18 : pm_okm pm_MT pm_m18 = true := by decide +kernel
theorem pm_k19 : pm_okm pm_MT pm_m19 = true := by decide +kernel
theorem pm_k20 : pm_okm pm_MT pm_m20 = true := by decide +kernel
theorem pm_k21 : pm_okm pm_MT pm_m21 = true := by decide +kernel
theorem pm_k22 : pm_okm pm_MT pm_m22 = true := by decide +kernel
theorem pm_k23 : pm_okm pm_MT pm_m23 = true := by decide +kernel
theorem pm_k24 : pm_okm pm_MT pm_m24 = true := by decide +kernel
theorem pm_k25 : pm_okm pm_MT pm_m25 = true := by decide +kernel
theorem pm_k26 : pm_okm pm_MT pm_m26 = true := by decide +kernel
theorem pm_k27 : pm_okm pm_MT pm_m27 = true := by decide +kernel
end
section
/-! Every row of code is what the bytes decode to, and its words are in the tables (by computation). -/
theorem pm_k28 : pm_okm pm_MT pm_m28 = true := by decide +kernel
theorem pm_k29 : pm_okm pm_MT pm_m29 = true := by decide +kernel
theorem pm_k30 : pm_okm pm_MT pm_m30 = true := by decide +kernel
theorem pm_k31 : pm_okm pm_MT pm_m31 = true := by decide +kernel
theorem pm_k32 : pm_okm pm_MT pm_m32 = true := by decide +kernel
theorem pm_k33 : pm_okm pm_MT pm_m33 = true := by decide +kernel
theorem pm_k34 : pm_okm pm_MT pm_m34 = true := by decide +kernel
theorem pm_k35 : pm_okm pm_MT pm_m35 = true := by decide +kernel
theorem pm_k36 : pm_okm pm_MT pm_m36 = true := by decide +kernel
theorem pm_k37 : pm_okm pm_MT pm_m37 = true := by decide +kernel
theorem pm_k38 : pm_okm pm_MT pm_m38 = true := by decide +kernel
theorem pm_k39 : pm_okm pm_MT pm_m39 = true := by decide +kernel
theorem pm_k40 : pm_okm pm_MT pm_m40 = true := by decide +kernel
theorem pm_k41 : pm_okm pm_MT pm_m41 = true := by decide +kernel
theorem pm_k42 : pm_okm pm_MT pm_m42 = true := by decide +kernel
theorem pm_k43 : pm_okm pm_MT pm_m43 = true := by decide +kernel
theorem pm_k44 : pm_okm pm_MT pm_m44 = true := by decide +kernel
theorem pm_k45 : pm_okm pm_MT pm_m45 = true := by decide +kernel
theorem pm_k46 : pm_okm pm_MT pm_m46 = true := by decide +kernel
theorem pm_k47 : pm_okm pm_MT pm_m47 = true := by decide +kernel
theorem pm_k48 : pm_okm pm_MT pm_m48 = true := by decide +kernel
theorem pm_k49 : pm_okm pm_MT pm_m49 = true := by decide +kernel
theorem pm_k50 : pm_okm pm_MT pm_m50 = true := by decide +kernel
theorem pm_k51 : pm_okm pm_MT pm_m51 = true := by decide +kernel
theorem pm_k52 : pm_okm pm_MT pm_m52 = true := by decide +kernel
theorem pm_k53 : pm_okm pm_MT pm_m53 = true := by decide +kernel
theorem pm_k54 : pm_okm pm_MT pm_m54 = true := by decide +kernel
theorem pm_k55 : pm_okm pm_MT pm_m55 = true := by decide +kernel
end
section
/-! Every row of code is what the bytes decode to, and its words are in the tables (by computation). -/
theorem pm_k56 : pm_okm pm_MT pm_m56 = true := by decide +kernel
theorem pm_k57 : pm_okm pm_MT pm_m57 = true := by decide +kernel
theorem pm_k58 : pm_okm pm_MT pm_m58 = true := by decide +kernel
theorem pm_k59 : pm_okm pm_MT pm_m59 = true := by decide +kernel
theorem pm_k60 : pm_okm pm_MT pm_m60 = true := by decide +kernel
theorem pm_k61 : pm_okm pm_MT pm_m61 = true := by decide +kernel
theorem pm_k62 : pm_okm pm_MT pm_m62 = true := by decide +kernel
theorem pm_k63 : pm_okm pm_MT pm_m63 = true := by decide +kernel
theorem pm_k64 : pm_okm pm_MT pm_m64 = true := by decide +kernel
theorem pm_k65 : pm_okm pm_MT pm_m65 = true := by decide +kernel
theorem pm_k66 : pm_okm pm_MT pm_m66 = true := by decide +kernel
theorem pm_k67 : pm_okm pm_MT pm_m67 = true := by decide +kernel
theorem pm_k68 : pm_okm pm_MT pm_m68 = true := by decide +kernel
theorem pm_k69 : pm_okm pm_MT pm_m69 = true := by decide +kernel
theorem pm_k70 : pm_okm pm_MT pm_m70 = true := by decide +kernel
theorem pm_k71 : pm_okm pm_MT pm_m71 = true := by decide +kernel
theorem pm_k72 : pm_okm pm_MT pm_m72 = true := by decide +kernel
theorem pm_k73 : pm_okm pm_MT pm_m73 = true := by decide +kernel
theorem pm_k74 : pm_okm pm_MT pm_m74 = true := by decide +kernel
theorem pm_k75 : pm_okm pm_MT pm_m75 = true := by decide +kernel
theorem pm_k76 : pm_okm pm_MT pm_m76 = true := by decide +kernel
theorem pm_k77 : pm_okm pm_MT pm_m77 = true := by decide +kernel
theorem pm_k78 : pm_okm pm_MT pm_m78 = true := by decide +kernel
theorem pm_k79 : pm_okm pm_MT pm_m79 = true := by decide +kernel
theorem pm_k80 : pm_okm pm_MT pm_m80 = true := by decide +kernel
theorem pm_k81 : pm_okm pm_MT pm_m81 = true := by decide +kernel
theorem pm_k82 : pm_okm pm_MT pm_m82 = true := by decide +kernel
theorem pm_k83 : pm_okm pm_MT pm_m83 = true := by decide +kernel
end
section
/-! Every row of code is what the bytes decode to, and its words are in the tables (by computation). -/
theorem pm_k84 : pm_okm pm_MT pm_m84 = true := by decide +kernel
theorem pm_k85 : pm_okm pm_MT pm_m85 = true := by decide +kernel
theorem pm_k86 : pm_okm pm_MT pm_m86 = true := by decide +kernel
theorem pm_k87 : pm_okm pm_MT pm_m87 = true := by decide +kernel
theorem pm_k88 : pm_okm pm_MT pm_m88 = true := by decide +kernel
theorem pm_k89 : pm_okm pm_MT pm_m89 = true := by decide +kernel
theorem pm_k90 : pm_okm pm_MT pm_m90 = true := by decide +kernel
theorem pm_k91 : pm_okm pm_MT pm_m91 = true := by decide +kernel
theorem pm_k92 : pm_okm pm_MT pm_m92 = true := by decide +kernel
theorem pm_k93 : pm_okm pm_MT pm_m93 = true := by decide +kernel
theorem pm_k94 : pm_okm pm_MT pm_m94 = true := by decide +kernel
theorem pm_k95 : pm_okm pm_MT pm_m95 = true := by decide +kernel
theorem pm_k96 : pm_okm pm_MT pm_m96 = true := by decide +kernel
theorem pm_k97 : pm_okm pm_MT pm_m97 = true := by decide +kernel
theorem pm_k98 : pm_okm pm_MT pm_m98 = true := by decide +kernel
theorem pm_k99 : pm_okm pm_MT pm_m99 = true := by decide +kernel
theorem pm_k100 : pm_okm pm_MT pm_m100 = true := by decide +kernel
theorem pm_k101 : pm_okm pm_MT pm_m101 = true := by decide +kernel
theorem pm_k102 : pm_okm pm_MT pm_m102 = true := by decide +kernel
theorem pm_k103 : pm_okm pm_MT pm_m103 = true := by decide +kernel
theorem pm_k104 : pm_okm pm_MT pm_m104 = true := by decide +kernel
theorem pm_k105 : pm_okm pm_MT pm_m105 = true := by decide +kernel
theorem pm_k106 : pm_okm pm_MT pm_m106 = true := by decide +kernel
theorem pm_k107 : pm_okm pm_MT pm_m107 = true := by decide +kernel
theorem pm_k108 : pm_okm pm_MT pm_m108 = true := by decide +kernel
theorem pm_k109 : pm_okm pm_MT pm_m109 = true := by decide +kernel
theorem pm_k110 : pm_okm pm_MT pm_m110 = true := by decide +kernel
theorem pm_kall : ∀ M ∈ pm_MT, pm_okm pm_MT M = true := List.forall_mem_cons.mpr ⟨pm_k0, List.forall_mem_cons.mpr ⟨pm_k1, List.forall_mem_cons.mpr ⟨pm_k2, List.forall_mem_cons.mpr ⟨pm_k3, List.forall_mem_cons.mpr ⟨pm_k4, List.forall_mem_cons.mpr ⟨pm_k5, List.forall_mem_cons.mpr ⟨pm_k6, List.forall_mem_cons.mpr ⟨pm_k7, List.forall_mem_cons.mpr ⟨pm_k8, List.forall_mem_cons.mpr ⟨pm_k9, List.forall_mem_cons.mpr ⟨pm_k10, List.forall_mem_cons.mpr ⟨pm_k11, List.forall_mem_cons.mpr ⟨pm_k12, List.forall_mem_cons.mpr ⟨pm_k13, List.forall_mem_cons.mpr ⟨pm_k14, List.forall_mem_cons.mpr ⟨pm_k15, List.forall_mem_cons.mpr ⟨pm_k16, List.forall_mem_cons.mpr ⟨pm_k17, List.forall_mem_cons.mpr ⟨pm_k18, List.forall_mem_cons.mpr ⟨pm_k19, List.forall_mem_cons.mpr ⟨pm_k20, List.forall_mem_cons.mpr ⟨pm_k21, List.forall_mem_cons.mpr ⟨pm_k22, List.forall_mem_cons.mpr ⟨pm_k23, List.forall_mem_cons.mpr ⟨pm_k24, List.forall_mem_cons.mpr ⟨pm_k25, List.forall_mem_cons.mpr ⟨pm_k26, List.forall_mem_cons.mpr ⟨pm_k27, List.forall_mem_cons.mpr ⟨pm_k28, List.forall_mem_cons.mpr ⟨pm_k29, List.forall_mem_cons.mpr ⟨pm_k30, List.forall_mem_cons.mpr ⟨pm_k31, List.forall_mem_cons.mpr ⟨pm_k32, List.forall_mem_cons.mpr ⟨pm_k33, List.forall_mem_cons.mpr ⟨pm_k34, List.forall_mem_cons.mpr ⟨pm_k35, List.forall_mem_cons.mpr ⟨pm_k36, List.forall_mem_cons.mpr ⟨pm_k37, List.forall_mem_cons.mpr ⟨pm_k38, List.forall_mem_cons.mpr ⟨pm_k39, List.forall_mem_cons.mpr ⟨pm_k40, List.forall_mem_cons.mpr ⟨pm_k41, List.forall_mem_cons.mpr ⟨pm_k42, List.forall_mem_cons.mpr ⟨pm_k43, List.forall_mem_cons.mpr ⟨pm_k44, List.forall_mem_cons.mpr ⟨pm_k45, List.forall_mem_cons.mpr ⟨pm_k46, List.forall_mem_cons.mpr ⟨pm_k47, List.forall_mem_cons.mpr ⟨pm_k48, List.forall_mem_cons.mpr ⟨pm_k49, List.forall_mem_cons.mpr ⟨pm_k50, List.forall_mem_cons.mpr ⟨pm_k51, List.forall_mem_cons.mpr ⟨pm_k52, List.forall_mem_cons.mpr ⟨pm_k53, List.forall_mem_cons.mpr ⟨pm_k54, List.forall_mem_cons.mpr ⟨pm_k55, List.forall_mem_cons.mpr ⟨pm_k56, List.forall_mem_cons.mpr ⟨pm_k57, List.forall_mem_cons.mpr ⟨pm_k58, List.forall_mem_cons.mpr ⟨pm_k59, List.forall_mem_cons.mpr ⟨pm_k60, List.forall_mem_cons.mpr ⟨pm_k61, List.forall_mem_cons.mpr ⟨pm_k62, List.forall_mem_cons.mpr ⟨pm_k63, List.forall_mem_cons.mpr ⟨pm_k64, List.forall_mem_cons.mpr ⟨pm_k65, List.forall_mem_cons.mpr ⟨pm_k66, List.forall_mem_cons.mpr ⟨pm_k67, List.forall_mem_cons.mpr ⟨pm_k68, List.forall_mem_cons.mpr ⟨pm_k69, List.forall_mem_cons.mpr ⟨pm_k70, List.forall_mem_cons.mpr ⟨pm_k71, List.forall_mem_cons.mpr ⟨pm_k72, List.forall_mem_cons.mpr ⟨pm_k73, List.forall_mem_cons.mpr ⟨pm_k74, List.forall_mem_cons.mpr ⟨pm_k75, List.forall_mem_cons.mpr ⟨pm_k76, List.forall_mem_cons.mpr ⟨pm_k77, List.forall_mem_cons.mpr ⟨pm_k78, List.forall_mem_cons.mpr ⟨pm_k79, List.forall_mem_cons.mpr ⟨pm_k80, List.forall_mem_cons.mpr ⟨pm_k81, List.forall_mem_cons.mpr ⟨pm_k82, List.forall_mem_cons.mpr ⟨pm_k83, List.forall_mem_cons.mpr ⟨pm_k84, List.forall_mem_cons.mpr ⟨pm_k85, List.forall_mem_cons.mpr ⟨pm_k86, List.forall_mem_cons.mpr ⟨pm_k87, List.forall_mem_cons.mpr ⟨pm_k88, List.forall_mem_cons.mpr ⟨pm_k89, List.forall_mem_cons.mpr ⟨pm_k90, List.forall_mem_cons.mpr ⟨pm_k91, List.forall_mem_cons.mpr ⟨pm_k92, List.forall_mem_cons.mpr ⟨pm_k93, List.forall_mem_cons.mpr ⟨pm_k94, List.forall_mem_cons.mpr ⟨pm_k95, List.forall_mem_cons.mpr ⟨pm_k96, List.forall_mem_cons.mpr ⟨pm_k97, List.forall_mem_cons.mpr ⟨pm_k98, List.forall_mem_cons.mpr ⟨pm_k99, List.forall_mem_cons.mpr ⟨pm_k100, List.forall_mem_cons.mpr ⟨pm_k101, List.forall_mem_cons.mpr ⟨pm_k102, List.forall_mem_cons.mpr ⟨pm_k103, List.forall_mem_cons.mpr ⟨pm_k104, List.forall_mem_cons.mpr ⟨pm_k105, List.forall_mem_cons.mpr ⟨pm_k106, List.forall_mem_cons.mpr ⟨pm_k107, List.forall_mem_cons.mpr ⟨pm_k108, List.forall_mem_cons.mpr ⟨pm_k109, List.forall_mem_cons.mpr ⟨pm_k110, fun _ h => absurd h List.not_mem_nil⟩⟩⟩⟩⟩⟩⟩⟩⟩⟩⟩⟩⟩⟩⟩⟩⟩⟩⟩⟩⟩⟩⟩⟩⟩⟩⟩⟩⟩⟩⟩⟩⟩⟩⟩⟩⟩⟩⟩⟩⟩⟩⟩⟩⟩⟩⟩⟩⟩⟩⟩⟩⟩⟩⟩⟩⟩⟩⟩⟩⟩⟩⟩⟩⟩⟩⟩⟩⟩⟩⟩⟩⟩⟩⟩⟩⟩⟩⟩⟩⟩⟩⟩⟩⟩⟩⟩⟩⟩⟩⟩⟩⟩⟩⟩⟩⟩⟩⟩⟩⟩⟩⟩⟩⟩⟩⟩⟩⟩⟩⟩
end
section
/-! The references at rest, and the method table as a function. f s j: the place of the frame at index j of line s. -/
def pm_rts : List (List (List Nat)) := [
  [[29, 48], [2], [], [], [], [], [], []],
  [[], [], [], [], [], [], [], [16]],
  [[], [], [], [], [], [], [], []],
  [[], [], [], [], [], [30, 31, 1, 15], [32, 34, 36, 38, 40, 42, 44, 46], []],
  [[33], [], [35], [], [37], [], [39], []],
  [[41], [], [43], [], [45], [], [47], []],
  [[49, 50, 15, 1], [51, 53, 55, 57, 59, 61, 63, 65], [], [52], [], [54], [], [56]],
  [[], [58], [], [60], [], [62], [], [64]],
  [[], [66], [], [68, 69, 70, 71, 72, 73, 74, 75, 76, 77, 78, 79, 80, 81, 82, 83, 84], [], [], [], []],
  [[], [], [], [], [], [], [], []],
  [[], [], [], [], [], [], [], []]]
def pm_R (f : Nat → Nat → Nat) : Nat → Nat → Option Nat := fun k j =>
  bif Nat.beq k 2 then (bif Nat.blt j 12 then some (f 0 j) else none) else bif Nat.beq k 16 then (bif Nat.blt j 12 then some (f 1 j) else none) else ((pm_rts.getD (k / 8) []).getD (k % 8) [])[j]?
def pm_Tf (mi : Nat) : pm_Cd × Nat := match pm_MT[mi]? with
  | some N => (N.2.2.2.2.1, N.2.2.2.2.2)
  | none => ([], 0)
theorem pm_Tf_of (mi : Nat) (N : pm_Mt) (h : pm_MT[mi]? = some N) : pm_Tf mi = (N.2.2.2.2.1, N.2.2.2.2.2) := by
  unfold pm_Tf
  rw [h]
abbrev pm_r (k : Nat) : pm_V := .inr (.inr (.inl (some k)))
abbrev pm_b (b : Bool) : pm_V := .inr (.inl b)
abbrev pm_bi (b : Bool) : pm_V := .inl (bif b then 1 else 0)
/-- the memory at rest -/
abbrev pm_u (x : Nat → Nat → Int32) (w : Nat → Nat → Bool) (f : Nat → Nat → Nat) : pm_S := (85, x, w, pm_R f)
theorem pm_iteS {α : Type} {p : Prop} {hd : Decidable p} {a b : Option α} {x y : α} (ha : p → a = some x) (hb : ¬ p → b = some y) : @ite (Option α) p hd a b = some (@ite α p hd x y) := by
  by_cases h : p
  · rw [if_pos h, if_pos h]; exact ha h
  · rw [if_neg h, if_neg h]; exact hb h
theorem pm_call1_of {α : Type} {kg : Option pm_V → pm_S → α} {kn : α} {r : Option pm_Rs} {v : Option pm_V} {u : pm_S} (h : r = some (v, u)) : pm_call1 kg kn r = kg v u := by rw [h]; rfl
/-- a method that calls nothing, at every depth -/
theorem pm_call_0 {T : Nat → pm_Cd × Nat} {sc : pm_Sc} {mi : Nat} {av : List pm_V} {u : pm_S} {r : pm_Rs} (h : ∀ c, pm_ev c sc (T mi).2 (T mi).1 0 (pm_args 0 av) [] u = some r) (d : Nat) : pm_call T sc d mi av u = some r := by
  cases d
  · exact h _
  · exact h _
def pm_LP : List Nat := [32, 34, 36, 38, 40, 42, 44, 46, 51, 53, 55, 57, 59, 61, 63, 65]
end
section
def pm_FP : List Nat := [3, 4, 5, 6, 7, 8, 9, 10, 11, 12, 13, 14, 17, 18, 19, 20, 21, 22, 23, 24, 25, 26, 27, 28, 31, 50]
theorem pm_iteW {α β : Type} {g : β → α} {p : Prop} {hd : Decidable p} {a b : Option α} {x y : β} (ha : p → a = some (g x)) (hb : ¬ p → b = some (g y)) : @ite (Option α) p hd a b = some (g (@ite β p hd x y)) := by
  by_cases h : p
  · rw [if_pos h, if_pos h]; exact ha h
  · rw [if_neg h, if_neg h]; exact hb h
def pm_g0 (x : Nat → Nat → Int32) (w : Nat → Nat → Bool) (f : Nat → Nat → Nat) (_ : Unit) : pm_Rs := (none, pm_u x w f)
def pm_g1 (x : Nat → Nat → Int32) (w : Nat → Nat → Bool) (f : Nat → Nat → Nat) (a : Int32) : pm_Rs := (some (.inl a), pm_u x w f)
def pm_g2 (x : Nat → Nat → Int32) (w : Nat → Nat → Bool) (f : Nat → Nat → Nat) (a : Bool) : pm_Rs := (some (pm_b a), pm_u x w f)
def pm_g3 (x : Nat → Nat → Int32) (w : Nat → Nat → Bool) (f : Nat → Nat → Nat) (a : Nat) : pm_Rs := (some (pm_r a), pm_u x w f)
def pm_h0 (f : Nat → Nat → Nat) (t : (Nat → Nat → Int32) × (Nat → Nat → Bool)) : pm_Rs := (none, pm_u t.1 t.2 f)
def pm_h1 (f : Nat → Nat → Nat) (t : Int32 × (Nat → Nat → Int32) × (Nat → Nat → Bool)) : pm_Rs := (some (.inl t.1), pm_u t.2.1 t.2.2 f)
def pm_h2 (f : Nat → Nat → Nat) (t : Bool × (Nat → Nat → Int32) × (Nat → Nat → Bool)) : pm_Rs := (some (pm_b t.1), pm_u t.2.1 t.2.2 f)
def pm_h3 (f : Nat → Nat → Nat) (t : Nat × (Nat → Nat → Int32) × (Nat → Nat → Bool)) : pm_Rs := (some (pm_r t.1), pm_u t.2.1 t.2.2 f)
theorem pm_iteG {γ β : Type} {g : β → γ} {p : Prop} {hd : Decidable p} {a b : γ} {x y : β} (ha : p → a = g x) (hb : ¬ p → b = g y) : @ite γ p hd a b = g (@ite β p hd x y) := by
  by_cases h : p
  · rw [if_pos h, if_pos h]; exact ha h
  · rw [if_neg h, if_neg h]; exact hb h
theorem pm_lt8 {i : Nat} (h : i < 8) : i = 0 ∨ i = 1 ∨ i = 2 ∨ i = 3 ∨ i = 4 ∨ i = 5 ∨ i = 6 ∨ i = 7 := by omega
theorem pm_lt12 {i : Nat} (h : i < 12) : i = 0 ∨ i = 1 ∨ i = 2 ∨ i = 3 ∨ i = 4 ∨ i = 5 ∨ i = 6 ∨ i = 7 ∨ i = 8 ∨ i = 9 ∨ i = 10 ∨ i = 11 := by omega
theorem pm_lt16 {i : Nat} (h : i < 16) : i = 0 ∨ i = 1 ∨ i = 2 ∨ i = 3 ∨ i = 4 ∨ i = 5 ∨ i = 6 ∨ i = 7 ∨ i = 8 ∨ i = 9 ∨ i = 10 ∨ i = 11 ∨ i = 12 ∨ i = 13 ∨ i = 14 ∨ i = 15 := by omega
theorem pm_lt32 {i : Nat} (h : i < 32) : i = 0 ∨ i = 1 ∨ i = 2 ∨ i = 3 ∨ i = 4 ∨ i = 5 ∨ i = 6 ∨ i = 7 ∨ i = 8 ∨ i = 9 ∨ i = 10 ∨ i = 11 ∨ i = 12 ∨ i = 13 ∨ i = 14 ∨ i = 15 ∨ i = 16 ∨ i = 17 ∨ i = 18 ∨ i = 19 ∨ i = 20 ∨ i = 21 ∨ i = 22 ∨ i = 23 ∨ i = 24 ∨ i = 25 ∨ i = 26 ∨ i = 27 ∨ i = 28 ∨ i = 29 ∨ i = 30 ∨ i = 31 := by omega
end
section
/-! Small static methods, Frame, Leaf (printed by wip/gen/dec.py). -/
theorem s72_0 {c : Nat → List pm_V → pm_S → Option pm_Rs} {sc : pm_Sc} (b : Bool) (x : Nat → Nat → Int32) (w : Nat → Nat → Bool) (f : Nat → Nat → Nat) : pm_ev c sc 1 pm_c72 0 [(0, pm_b b)] [] (pm_u x w f) = (if b = true then some (some (.inl 1), pm_u x w f) else some (some (.inl 0), pm_u x w f)) := by
  exact (pm_ev_iter [] 3000 _ _ _ _).trans rfl
def q72 (b : Bool) (x : Nat → Nat → Int32) (w : Nat → Nat → Bool) (f : Nat → Nat → Nat) : Int32 := (if b = true then 1 else 0)
theorem e72 {c : Nat → List pm_V → pm_S → Option pm_Rs} {sc : pm_Sc} (b : Bool) (x : Nat → Nat → Int32) (w : Nat → Nat → Bool) (f : Nat → Nat → Nat) : pm_ev c sc 1 pm_c72 0 [(0, pm_b b)] [] (pm_u x w f) = some (pm_g1 x w f (q72 b x w f)) := (s72_0 b x w f).trans (pm_iteG (g := (fun t => some (pm_g1 x w f t))) (fun _ => rfl) (fun _ => rfl))
theorem z72 {sc : pm_Sc} (d : Nat) (b : Bool) (x : Nat → Nat → Int32) (w : Nat → Nat → Bool) (f : Nat → Nat → Nat) : pm_call pm_Tf sc (d + 0) 72 [pm_b b] (pm_u x w f) = some (pm_g1 x w f (q72 b x w f)) := pm_call_0 (fun _ => e72 b x w f) d
theorem s71_0 {c : Nat → List pm_V → pm_S → Option pm_Rs} {sc : pm_Sc} (a : Int32) (lo : Int32) (hi : Int32) (x : Nat → Nat → Int32) (w : Nat → Nat → Bool) (f : Nat → Nat → Nat) : pm_ev c sc 2 pm_c71 0 [(0, .inl a), (1, .inl lo), (2, .inl hi)] [] (pm_u x w f) = (if a < lo then some (some (pm_b false), pm_u x w f) else (if hi < a then some (some (pm_b false), pm_u x w f) else some (some (pm_b true), pm_u x w f))) := by
  exact (pm_ev_iter [] 3000 _ _ _ _).trans rfl
def q71 (a : Int32) (lo : Int32) (hi : Int32) (x : Nat → Nat → Int32) (w : Nat → Nat → Bool) (f : Nat → Nat → Nat) : Bool := (if a < lo then false else (if hi < a then false else true))
theorem e71 {c : Nat → List pm_V → pm_S → Option pm_Rs} {sc : pm_Sc} (a : Int32) (lo : Int32) (hi : Int32) (x : Nat → Nat → Int32) (w : Nat → Nat → Bool) (f : Nat → Nat → Nat) : pm_ev c sc 2 pm_c71 0 [(0, .inl a), (1, .inl lo), (2, .inl hi)] [] (pm_u x w f) = some (pm_g2 x w f (q71 a lo hi x w f)) := (s71_0 a lo hi x w f).trans (pm_iteG (g := (fun t => some (pm_g2 x w f t))) (fun _ => rfl) (fun _ => pm_iteG (g := (fun t => some (pm_g2 x w f t))) (fun _ => rfl) (fun _ => rfl)))
theorem z71 {sc : pm_Sc} (d : Nat) (a : Int32) (lo : Int32) (hi : Int32) (x : Nat → Nat → Int32) (w : Nat → Nat → Bool) (f : Nat → Nat → Nat) : pm_call pm_Tf sc (d + 0) 71 [.inl a, .inl lo, .inl hi] (pm_u x w f) = some (pm_g2 x w f (q71 a lo hi x w f)) := pm_call_0 (fun _ => e71 a lo hi x w f) d
theorem s69_0 {sc : pm_Sc} (d : Nat) (a : Int32) (x : Nat → Nat → Int32) (w : Nat → Nat → Bool) (f : Nat → Nat → Nat) : pm_ev (pm_call pm_Tf sc (d + 0)) sc 2 pm_c69 0 [(0, .inl a)] [] (pm_u x w f) = pm_ev (pm_call pm_Tf sc (d + 0)) sc 2 pm_c69 3 [(0, .inl a)] [.inl 1, .inl 0, .inl a] (pm_u x w f) := by
  exact (pm_ev_iter [3] 3000 _ _ _ _).trans rfl
theorem s69_1 {sc : pm_Sc} (d : Nat) (a : Int32) (x : Nat → Nat → Int32) (w : Nat → Nat → Bool) (f : Nat → Nat → Nat) : pm_ev (pm_call pm_Tf sc (d + 0)) sc 2 pm_c69 3 [(0, .inl a)] [.inl 1, .inl 0, .inl a] (pm_u x w f) = pm_call1 (fun v u => pm_ev (pm_call pm_Tf sc (d + 0)) sc 2 pm_c69 6 [(0, .inl a)] (v.toList ++ []) u) none ((pm_call pm_Tf sc (d + 0)) 71 [.inl a, .inl 0, .inl 1] (pm_u x w f)) := by
  exact (pm_ev_step _ _ _ _).trans rfl
theorem s69_2 {sc : pm_Sc} (d : Nat) (a : Int32) (x : Nat → Nat → Int32) (w : Nat → Nat → Bool) (f : Nat → Nat → Nat) : pm_ev (pm_call pm_Tf sc (d + 0)) sc 2 pm_c69 6 [(0, .inl a)] [pm_b (q71 a 0 1 x w f)] (pm_u x w f) = some (some (pm_b (q71 a 0 1 x w f)), pm_u x w f) := by
  exact (pm_ev_iter [3] 3000 _ _ _ _).trans rfl
def q69 (a : Int32) (x : Nat → Nat → Int32) (w : Nat → Nat → Bool) (f : Nat → Nat → Nat) : Bool := (q71 a 0 1 x w f)
theorem e69 {sc : pm_Sc} (d : Nat) (a : Int32) (x : Nat → Nat → Int32) (w : Nat → Nat → Bool) (f : Nat → Nat → Nat) : pm_ev (pm_call pm_Tf sc (d + 0)) sc 2 pm_c69 0 [(0, .inl a)] [] (pm_u x w f) = some (pm_g2 x w f (q69 a x w f)) := (s69_0 d a x w f).trans (((s69_1 d a x w f).trans ((pm_call1_of (z71 (d + 0) a 0 1 x w f)).trans ((s69_2 d a x w f).trans (rfl)))))
theorem z69 {sc : pm_Sc} (d : Nat) (a : Int32) (x : Nat → Nat → Int32) (w : Nat → Nat → Bool) (f : Nat → Nat → Nat) : pm_call pm_Tf sc (d + 1) 69 [.inl a] (pm_u x w f) = some (pm_g2 x w f (q69 a x w f)) := e69 d a x w f
theorem s70_0 {sc : pm_Sc} (d : Nat) (a : Int32) (x : Nat → Nat → Int32) (w : Nat → Nat → Bool) (f : Nat → Nat → Nat) : pm_ev (pm_call pm_Tf sc (d + 0)) sc 2 pm_c70 0 [(0, .inl a)] [] (pm_u x w f) = pm_ev (pm_call pm_Tf sc (d + 0)) sc 2 pm_c70 4 [(0, .inl a)] [.inl 7, .inl 0, .inl a] (pm_u x w f) := by
  exact (pm_ev_iter [4] 3000 _ _ _ _).trans rfl
theorem s70_1 {sc : pm_Sc} (d : Nat) (a : Int32) (x : Nat → Nat → Int32) (w : Nat → Nat → Bool) (f : Nat → Nat → Nat) : pm_ev (pm_call pm_Tf sc (d + 0)) sc 2 pm_c70 4 [(0, .inl a)] [.inl 7, .inl 0, .inl a] (pm_u x w f) = pm_call1 (fun v u => pm_ev (pm_call pm_Tf sc (d + 0)) sc 2 pm_c70 7 [(0, .inl a)] (v.toList ++ []) u) none ((pm_call pm_Tf sc (d + 0)) 71 [.inl a, .inl 0, .inl 7] (pm_u x w f)) := by
  exact (pm_ev_step _ _ _ _).trans rfl
theorem s70_2 {sc : pm_Sc} (d : Nat) (a : Int32) (x : Nat → Nat → Int32) (w : Nat → Nat → Bool) (f : Nat → Nat → Nat) : pm_ev (pm_call pm_Tf sc (d + 0)) sc 2 pm_c70 7 [(0, .inl a)] [pm_b (q71 a 0 7 x w f)] (pm_u x w f) = some (some (pm_b (q71 a 0 7 x w f)), pm_u x w f) := by
  exact (pm_ev_iter [4] 3000 _ _ _ _).trans rfl
def q70 (a : Int32) (x : Nat → Nat → Int32) (w : Nat → Nat → Bool) (f : Nat → Nat → Nat) : Bool := (q71 a 0 7 x w f)
theorem e70 {sc : pm_Sc} (d : Nat) (a : Int32) (x : Nat → Nat → Int32) (w : Nat → Nat → Bool) (f : Nat → Nat → Nat) : pm_ev (pm_call pm_Tf sc (d + 0)) sc 2 pm_c70 0 [(0, .inl a)] [] (pm_u x w f) = some (pm_g2 x w f (q70 a x w f)) := (s70_0 d a x w f).trans (((s70_1 d a x w f).trans ((pm_call1_of (z71 (d + 0) a 0 7 x w f)).trans ((s70_2 d a x w f).trans (rfl)))))
theorem z70 {sc : pm_Sc} (d : Nat) (a : Int32) (x : Nat → Nat → Int32) (w : Nat → Nat → Bool) (f : Nat → Nat → Nat) : pm_call pm_Tf sc (d + 1) 70 [.inl a] (pm_u x w f) = some (pm_g2 x w f (q70 a x w f)) := e70 d a x w f
theorem s3_0 {c : Nat → List pm_V → pm_S → Option pm_Rs} {sc : pm_Sc} (q : Nat) (i : Int32) (x : Nat → Nat → Int32) (w : Nat → Nat → Bool) (f : Nat → Nat → Nat) (hq : q ∈ pm_FP) : pm_ev c sc 2 pm_c3 0 [(0, pm_r q), (1, .inl i)] [] (pm_u x w f) = (if (((x q 3) >>> (i &&& 31)) &&& (1 : Int32)) = 1 then some (some (pm_b true), pm_u x w f) else some (some (pm_b false), pm_u x w f)) := by
  (simp only [pm_FP, List.mem_cons, List.not_mem_nil, or_false] at hq; rcases hq with rfl | rfl | rfl | rfl | rfl | rfl | rfl | rfl | rfl | rfl | rfl | rfl | rfl | rfl | rfl | rfl | rfl | rfl | rfl | rfl | rfl | rfl | rfl | rfl | rfl | rfl) <;> exact (pm_ev_iter [] 3000 _ _ _ _).trans rfl
def q3 (q : Nat) (i : Int32) (x : Nat → Nat → Int32) (w : Nat → Nat → Bool) (f : Nat → Nat → Nat) : Bool := (if (((x q 3) >>> (i &&& 31)) &&& (1 : Int32)) = 1 then true else false)
theorem e3 {c : Nat → List pm_V → pm_S → Option pm_Rs} {sc : pm_Sc} (q : Nat) (i : Int32) (x : Nat → Nat → Int32) (w : Nat → Nat → Bool) (f : Nat → Nat → Nat) (hq : q ∈ pm_FP) : pm_ev c sc 2 pm_c3 0 [(0, pm_r q), (1, .inl i)] [] (pm_u x w f) = some (pm_g2 x w f (q3 q i x w f)) := (s3_0 q i x w f hq).trans (pm_iteG (g := (fun t => some (pm_g2 x w f t))) (fun _ => rfl) (fun _ => rfl))
theorem z3 {sc : pm_Sc} (d : Nat) (q : Nat) (i : Int32) (x : Nat → Nat → Int32) (w : Nat → Nat → Bool) (f : Nat → Nat → Nat) (hq : q ∈ pm_FP) : pm_call pm_Tf sc (d + 0) 3 [pm_r q, .inl i] (pm_u x w f) = some (pm_g2 x w f (q3 q i x w f)) := pm_call_0 (fun _ => e3 q i x w f hq) d
theorem s1_0 {c : Nat → List pm_V → pm_S → Option pm_Rs} {sc : pm_Sc} (q : Nat) (x : Nat → Nat → Int32) (w : Nat → Nat → Bool) (f : Nat → Nat → Nat) (hq : q ∈ pm_FP) : pm_ev c sc 0 pm_c1 0 [(0, pm_r q)] [] (pm_u x w f) = some (none, pm_u (pm_up (pm_up (pm_up (pm_up x q 0 0) q 1 0) q 2 0) q 3 0) (pm_up (pm_up w q 4 false) q 5 false) f) := by
  (simp only [pm_FP, List.mem_cons, List.not_mem_nil, or_false] at hq; rcases hq with rfl | rfl | rfl | rfl | rfl | rfl | rfl | rfl | rfl | rfl | rfl | rfl | rfl | rfl | rfl | rfl | rfl | rfl | rfl | rfl | rfl | rfl | rfl | rfl | rfl | rfl) <;> exact (pm_ev_iter [] 3000 _ _ _ _).trans rfl
def q1 (q : Nat) (x : Nat → Nat → Int32) (w : Nat → Nat → Bool) (f : Nat → Nat → Nat) : (Nat → Nat → Int32) × (Nat → Nat → Bool) := (pm_up (pm_up (pm_up (pm_up x q 0 0) q 1 0) q 2 0) q 3 0, pm_up (pm_up w q 4 false) q 5 false)
theorem e1 {c : Nat → List pm_V → pm_S → Option pm_Rs} {sc : pm_Sc} (q : Nat) (x : Nat → Nat → Int32) (w : Nat → Nat → Bool) (f : Nat → Nat → Nat) (hq : q ∈ pm_FP) : pm_ev c sc 0 pm_c1 0 [(0, pm_r q)] [] (pm_u x w f) = some (pm_h0 f (q1 q x w f)) := (s1_0 q x w f hq).trans (rfl)
theorem z1 {sc : pm_Sc} (d : Nat) (q : Nat) (x : Nat → Nat → Int32) (w : Nat → Nat → Bool) (f : Nat → Nat → Nat) (hq : q ∈ pm_FP) : pm_call pm_Tf sc (d + 0) 1 [pm_r q] (pm_u x w f) = some (pm_h0 f (q1 q x w f)) := pm_call_0 (fun _ => e1 q x w f hq) d
theorem s4_0 {sc : pm_Sc} (d : Nat) (q : Nat) (i : Int32) (x : Nat → Nat → Int32) (w : Nat → Nat → Bool) (f : Nat → Nat → Nat) (hq : q ∈ pm_FP) : pm_ev (pm_call pm_Tf sc (d + 0)) sc 1 pm_c4 0 [(0, pm_r q), (1, .inl i)] [] (pm_u x w f) = (if i = 0 then some (some (.inl (x q 0)), pm_u x w f) else (if i = 1 then some (some (.inl (x q 1)), pm_u x w f) else (if i = 2 then some (some (.inl (x q 2)), pm_u x w f) else (if i = 3 then some (some (.inl (x q 3)), pm_u x w f) else (if i = 4 then pm_ev (pm_call pm_Tf sc (d + 0)) sc 1 pm_c4 64 [(0, pm_r q), (1, .inl i)] [pm_b (w q 4)] (pm_u x w f) else (if i = 5 then pm_ev (pm_call pm_Tf sc (d + 0)) sc 1 pm_c4 72 [(0, pm_r q), (1, .inl i)] [pm_b (w q 5)] (pm_u x w f) else some (some (.inl (-1)), pm_u x w f))))))) := by
  (simp only [pm_FP, List.mem_cons, List.not_mem_nil, or_false] at hq; rcases hq with rfl | rfl | rfl | rfl | rfl | rfl | rfl | rfl | rfl | rfl | rfl | rfl | rfl | rfl | rfl | rfl | rfl | rfl | rfl | rfl | rfl | rfl | rfl | rfl | rfl | rfl) <;> exact (pm_ev_iter [64, 72] 3000 _ _ _ _).trans rfl
theorem s4_1 {sc : pm_Sc} (d : Nat) (q : Nat) (i : Int32) (x : Nat → Nat → Int32) (w : Nat → Nat → Bool) (f : Nat → Nat → Nat) (hq : q ∈ pm_FP) : pm_ev (pm_call pm_Tf sc (d + 0)) sc 1 pm_c4 64 [(0, pm_r q), (1, .inl i)] [pm_b (w q 4)] (pm_u x w f) = pm_call1 (fun v u => pm_ev (pm_call pm_Tf sc (d + 0)) sc 1 pm_c4 67 [(0, pm_r q), (1, .inl i)] (v.toList ++ []) u) none ((pm_call pm_Tf sc (d + 0)) 72 [pm_b (w q 4)] (pm_u x w f)) := by
  (simp only [pm_FP, List.mem_cons, List.not_mem_nil, or_false] at hq; rcases hq with rfl | rfl | rfl | rfl | rfl | rfl | rfl | rfl | rfl | rfl | rfl | rfl | rfl | rfl | rfl | rfl | rfl | rfl | rfl | rfl | rfl | rfl | rfl | rfl | rfl | rfl) <;> exact (pm_ev_step _ _ _ _).trans rfl
theorem s4_2 {sc : pm_Sc} (d : Nat) (q : Nat) (i : Int32) (x : Nat → Nat → Int32) (w : Nat → Nat → Bool) (f : Nat → Nat → Nat) (hq : q ∈ pm_FP) : pm_ev (pm_call pm_Tf sc (d + 0)) sc 1 pm_c4 67 [(0, pm_r q), (1, .inl i)] [.inl (q72 (w q 4) x w f)] (pm_u x w f) = some (some (.inl (q72 (w q 4) x w f)), pm_u x w f) := by
  (simp only [pm_FP, List.mem_cons, List.not_mem_nil, or_false] at hq; rcases hq with rfl | rfl | rfl | rfl | rfl | rfl | rfl | rfl | rfl | rfl | rfl | rfl | rfl | rfl | rfl | rfl | rfl | rfl | rfl | rfl | rfl | rfl | rfl | rfl | rfl | rfl) <;> exact (pm_ev_iter [64, 72] 3000 _ _ _ _).trans rfl
theorem s4_3 {sc : pm_Sc} (d : Nat) (q : Nat) (i : Int32) (x : Nat → Nat → Int32) (w : Nat → Nat → Bool) (f : Nat → Nat → Nat) (hq : q ∈ pm_FP) : pm_ev (pm_call pm_Tf sc (d + 0)) sc 1 pm_c4 72 [(0, pm_r q), (1, .inl i)] [pm_b (w q 5)] (pm_u x w f) = pm_call1 (fun v u => pm_ev (pm_call pm_Tf sc (d + 0)) sc 1 pm_c4 75 [(0, pm_r q), (1, .inl i)] (v.toList ++ []) u) none ((pm_call pm_Tf sc (d + 0)) 72 [pm_b (w q 5)] (pm_u x w f)) := by
  (simp only [pm_FP, List.mem_cons, List.not_mem_nil, or_false] at hq; rcases hq with rfl | rfl | rfl | rfl | rfl | rfl | rfl | rfl | rfl | rfl | rfl | rfl | rfl | rfl | rfl | rfl | rfl | rfl | rfl | rfl | rfl | rfl | rfl | rfl | rfl | rfl) <;> exact (pm_ev_step _ _ _ _).trans rfl
theorem s4_4 {sc : pm_Sc} (d : Nat) (q : Nat) (i : Int32) (x : Nat → Nat → Int32) (w : Nat → Nat → Bool) (f : Nat → Nat → Nat) (hq : q ∈ pm_FP) : pm_ev (pm_call pm_Tf sc (d + 0)) sc 1 pm_c4 75 [(0, pm_r q), (1, .inl i)] [.inl (q72 (w q 5) x w f)] (pm_u x w f) = some (some (.inl (q72 (w q 5) x w f)), pm_u x w f) := by
  (simp only [pm_FP, List.mem_cons, List.not_mem_nil, or_false] at hq; rcases hq with rfl | rfl | rfl | rfl | rfl | rfl | rfl | rfl | rfl | rfl | rfl | rfl | rfl | rfl | rfl | rfl | rfl | rfl | rfl | rfl | rfl | rfl | rfl | rfl | rfl | rfl) <;> exact (pm_ev_iter [64, 72] 3000 _ _ _ _).trans rfl
def q4 (q : Nat) (i : Int32) (x : Nat → Nat → Int32) (w : Nat → Nat → Bool) (f : Nat → Nat → Nat) : Int32 := (if i = 0 then x q 0 else (if i = 1 then x q 1 else (if i = 2 then x q 2 else (if i = 3 then x q 3 else (if i = 4 then (q72 (w q 4) x w f) else (if i = 5 then (q72 (w q 5) x w f) else (-1)))))))
theorem e4 {sc : pm_Sc} (d : Nat) (q : Nat) (i : Int32) (x : Nat → Nat → Int32) (w : Nat → Nat → Bool) (f : Nat → Nat → Nat) (hq : q ∈ pm_FP) : pm_ev (pm_call pm_Tf sc (d + 0)) sc 1 pm_c4 0 [(0, pm_r q), (1, .inl i)] [] (pm_u x w f) = some (pm_g1 x w f (q4 q i x w f)) := (s4_0 d q i x w f hq).trans (pm_iteG (g := (fun t => some (pm_g1 x w f t))) (fun _ => rfl) (fun _ => pm_iteG (g := (fun t => some (pm_g1 x w f t))) (fun _ => rfl) (fun _ => pm_iteG (g := (fun t => some (pm_g1 x w f t))) (fun _ => rfl) (fun _ => pm_iteG (g := (fun t => some (pm_g1 x w f t))) (fun _ => rfl) (fun _ => pm_iteG (g := (fun t => some (pm_g1 x w f t))) (fun _ => ((s4_1 d q i x w f hq).trans ((pm_call1_of (z72 (d + 0) (w q 4) x w f)).trans ((s4_2 d q i x w f hq).trans (rfl))))) (fun _ => pm_iteG (g := (fun t => some (pm_g1 x w f t))) (fun _ => ((s4_3 d q i x w f hq).trans ((pm_call1_of (z72 (d + 0) (w q 5) x w f)).trans ((s4_4 d q i x w f hq).trans (rfl))))) (fun _ => rfl)))))))
theorem z4 {sc : pm_Sc} (d : Nat) (q : Nat) (i : Int32) (x : Nat → Nat → Int32) (w : Nat → Nat → Bool) (f : Nat → Nat → Nat) (hq : q ∈ pm_FP) : pm_call pm_Tf sc (d + 1) 4 [pm_r q, .inl i] (pm_u x w f) = some (pm_g1 x w f (q4 q i x w f)) := e4 d q i x w f hq
theorem s10_0 {c : Nat → List pm_V → pm_S → Option pm_Rs} {sc : pm_Sc} (k : Nat) (x : Nat → Nat → Int32) (w : Nat → Nat → Bool) (f : Nat → Nat → Nat) (hk : k ∈ pm_LP) : pm_ev c sc 2 pm_c10 0 [(0, pm_r k)] [] (pm_u x w f) = (if (x k 1) = 0 then (if (w k 5) = true then some (some (pm_b false), pm_u x w f) else (if (w k 7) = true then some (some (pm_b false), pm_u x w f) else some (some (pm_b true), pm_u x w f))) else some (some (pm_b false), pm_u x w f)) := by
  (simp only [pm_LP, List.mem_cons, List.not_mem_nil, or_false] at hk; rcases hk with rfl | rfl | rfl | rfl | rfl | rfl | rfl | rfl | rfl | rfl | rfl | rfl | rfl | rfl | rfl | rfl) <;> exact (pm_ev_iter [] 3000 _ _ _ _).trans rfl
def q10 (k : Nat) (x : Nat → Nat → Int32) (w : Nat → Nat → Bool) (f : Nat → Nat → Nat) : Bool := (if (x k 1) = 0 then (if (w k 5) = true then false else (if (w k 7) = true then false else true)) else false)
theorem e10 {c : Nat → List pm_V → pm_S → Option pm_Rs} {sc : pm_Sc} (k : Nat) (x : Nat → Nat → Int32) (w : Nat → Nat → Bool) (f : Nat → Nat → Nat) (hk : k ∈ pm_LP) : pm_ev c sc 2 pm_c10 0 [(0, pm_r k)] [] (pm_u x w f) = some (pm_g2 x w f (q10 k x w f)) := (s10_0 k x w f hk).trans (pm_iteG (g := (fun t => some (pm_g2 x w f t))) (fun _ => pm_iteG (g := (fun t => some (pm_g2 x w f t))) (fun _ => rfl) (fun _ => pm_iteG (g := (fun t => some (pm_g2 x w f t))) (fun _ => rfl) (fun _ => rfl))) (fun _ => rfl))
theorem z10 {sc : pm_Sc} (d : Nat) (k : Nat) (x : Nat → Nat → Int32) (w : Nat → Nat → Bool) (f : Nat → Nat → Nat) (hk : k ∈ pm_LP) : pm_call pm_Tf sc (d + 0) 10 [pm_r k] (pm_u x w f) = some (pm_g2 x w f (q10 k x w f)) := pm_call_0 (fun _ => e10 k x w f hk) d
theorem s12_0 {c : Nat → List pm_V → pm_S → Option pm_Rs} {sc : pm_Sc} (h : Int32) (b : Bool) (x : Nat → Nat → Int32) (w : Nat → Nat → Bool) (f : Nat → Nat → Nat) : pm_ev c sc 2 pm_c12 0 [(0, .inl h), (1, pm_b b)] [] (pm_u x w f) = (if h = 1 then some (some (pm_b true), pm_u x w f) else (if h = 2 then some (some (pm_b false), pm_u x w f) else (if b = true then some (some (pm_b true), pm_u x w f) else some (some (pm_b false), pm_u x w f)))) := by
  exact (pm_ev_iter [] 3000 _ _ _ _).trans rfl
def q12 (h : Int32) (b : Bool) (x : Nat → Nat → Int32) (w : Nat → Nat → Bool) (f : Nat → Nat → Nat) : Bool := (if h = 1 then true else (if h = 2 then false else (if b = true then true else false)))
theorem e12 {c : Nat → List pm_V → pm_S → Option pm_Rs} {sc : pm_Sc} (h : Int32) (b : Bool) (x : Nat → Nat → Int32) (w : Nat → Nat → Bool) (f : Nat → Nat → Nat) : pm_ev c sc 2 pm_c12 0 [(0, .inl h), (1, pm_b b)] [] (pm_u x w f) = some (pm_g2 x w f (q12 h b x w f)) := (s12_0 h b x w f).trans (pm_iteG (g := (fun t => some (pm_g2 x w f t))) (fun _ => rfl) (fun _ => pm_iteG (g := (fun t => some (pm_g2 x w f t))) (fun _ => rfl) (fun _ => pm_iteG (g := (fun t => some (pm_g2 x w f t))) (fun _ => rfl) (fun _ => rfl))))
theorem z12 {sc : pm_Sc} (d : Nat) (h : Int32) (b : Bool) (x : Nat → Nat → Int32) (w : Nat → Nat → Bool) (f : Nat → Nat → Nat) : pm_call pm_Tf sc (d + 0) 12 [.inl h, pm_b b] (pm_u x w f) = some (pm_g2 x w f (q12 h b x w f)) := pm_call_0 (fun _ => e12 h b x w f) d
theorem s11_0 {sc : pm_Sc} (d : Nat) (k : Nat) (x : Nat → Nat → Int32) (w : Nat → Nat → Bool) (f : Nat → Nat → Nat) (hk : k ∈ pm_LP) : pm_ev (pm_call pm_Tf sc (d + 0)) sc 2 pm_c11 0 [(0, pm_r k)] [] (pm_u x w f) = pm_ev (pm_call pm_Tf sc (d + 0)) sc 2 pm_c11 1 [(0, pm_r k)] [pm_r k] (pm_u x w f) := by
  (simp only [pm_LP, List.mem_cons, List.not_mem_nil, or_false] at hk; rcases hk with rfl | rfl | rfl | rfl | rfl | rfl | rfl | rfl | rfl | rfl | rfl | rfl | rfl | rfl | rfl | rfl) <;> exact (pm_ev_iter [1, 12, 25] 3000 _ _ _ _).trans rfl
theorem s11_1 {sc : pm_Sc} (d : Nat) (k : Nat) (x : Nat → Nat → Int32) (w : Nat → Nat → Bool) (f : Nat → Nat → Nat) (hk : k ∈ pm_LP) : pm_ev (pm_call pm_Tf sc (d + 0)) sc 2 pm_c11 1 [(0, pm_r k)] [pm_r k] (pm_u x w f) = pm_call1 (fun v u => pm_ev (pm_call pm_Tf sc (d + 0)) sc 2 pm_c11 4 [(0, pm_r k)] (v.toList ++ []) u) none ((pm_call pm_Tf sc (d + 0)) 10 [pm_r k] (pm_u x w f)) := by
  (simp only [pm_LP, List.mem_cons, List.not_mem_nil, or_false] at hk; rcases hk with rfl | rfl | rfl | rfl | rfl | rfl | rfl | rfl | rfl | rfl | rfl | rfl | rfl | rfl | rfl | rfl) <;> exact (pm_ev_step _ _ _ _).trans rfl
theorem s11_2 {sc : pm_Sc} (d : Nat) (k : Nat) (x : Nat → Nat → Int32) (w : Nat → Nat → Bool) (f : Nat → Nat → Nat) (hk : k ∈ pm_LP) : pm_ev (pm_call pm_Tf sc (d + 0)) sc 2 pm_c11 4 [(0, pm_r k)] [pm_b (q10 k x w f)] (pm_u x w f) = pm_ev (pm_call pm_Tf sc (d + 0)) sc 2 pm_c11 12 [(1, pm_b (q10 k x w f)), (0, pm_r k)] [pm_b (q10 k x w f), .inl (x (k + 1) 0)] (pm_u x w f) := by
  (simp only [pm_LP, List.mem_cons, List.not_mem_nil, or_false] at hk; rcases hk with rfl | rfl | rfl | rfl | rfl | rfl | rfl | rfl | rfl | rfl | rfl | rfl | rfl | rfl | rfl | rfl) <;> exact (pm_ev_iter [1, 12, 25] 3000 _ _ _ _).trans rfl
theorem s11_3 {sc : pm_Sc} (d : Nat) (k : Nat) (x : Nat → Nat → Int32) (w : Nat → Nat → Bool) (f : Nat → Nat → Nat) (hk : k ∈ pm_LP) : pm_ev (pm_call pm_Tf sc (d + 0)) sc 2 pm_c11 12 [(1, pm_b (q10 k x w f)), (0, pm_r k)] [pm_b (q10 k x w f), .inl (x (k + 1) 0)] (pm_u x w f) = pm_call1 (fun v u => pm_ev (pm_call pm_Tf sc (d + 0)) sc 2 pm_c11 15 [(1, pm_b (q10 k x w f)), (0, pm_r k)] (v.toList ++ []) u) none ((pm_call pm_Tf sc (d + 0)) 12 [.inl (x (k + 1) 0), pm_b (q10 k x w f)] (pm_u x w f)) := by
  (simp only [pm_LP, List.mem_cons, List.not_mem_nil, or_false] at hk; rcases hk with rfl | rfl | rfl | rfl | rfl | rfl | rfl | rfl | rfl | rfl | rfl | rfl | rfl | rfl | rfl | rfl) <;> exact (pm_ev_step _ _ _ _).trans rfl
theorem s11_4 {sc : pm_Sc} (d : Nat) (k : Nat) (x : Nat → Nat → Int32) (w : Nat → Nat → Bool) (f : Nat → Nat → Nat) (hk : k ∈ pm_LP) : pm_ev (pm_call pm_Tf sc (d + 0)) sc 2 pm_c11 15 [(1, pm_b (q10 k x w f)), (0, pm_r k)] [pm_b (q12 (x (k + 1) 0) (q10 k x w f) x w f)] (pm_u x w f) = (if (q12 (x (k + 1) 0) (q10 k x w f) x w f) = true then pm_ev (pm_call pm_Tf sc (d + 0)) sc 2 pm_c11 25 [(1, pm_b (q10 k x w f)), (0, pm_r k)] [pm_b (q10 k x w f), .inl (x (k + 1) 1)] (pm_u x w f) else some (some (pm_b false), pm_u x w f)) := by
  (simp only [pm_LP, List.mem_cons, List.not_mem_nil, or_false] at hk; rcases hk with rfl | rfl | rfl | rfl | rfl | rfl | rfl | rfl | rfl | rfl | rfl | rfl | rfl | rfl | rfl | rfl) <;> exact (pm_ev_iter [1, 12, 25] 3000 _ _ _ _).trans rfl
theorem s11_5 {sc : pm_Sc} (d : Nat) (k : Nat) (x : Nat → Nat → Int32) (w : Nat → Nat → Bool) (f : Nat → Nat → Nat) (hk : k ∈ pm_LP) : pm_ev (pm_call pm_Tf sc (d + 0)) sc 2 pm_c11 25 [(1, pm_b (q10 k x w f)), (0, pm_r k)] [pm_b (q10 k x w f), .inl (x (k + 1) 1)] (pm_u x w f) = pm_call1 (fun v u => pm_ev (pm_call pm_Tf sc (d + 0)) sc 2 pm_c11 28 [(1, pm_b (q10 k x w f)), (0, pm_r k)] (v.toList ++ []) u) none ((pm_call pm_Tf sc (d + 0)) 12 [.inl (x (k + 1) 1), pm_b (q10 k x w f)] (pm_u x w f)) := by
  (simp only [pm_LP, List.mem_cons, List.not_mem_nil, or_false] at hk; rcases hk with rfl | rfl | rfl | rfl | rfl | rfl | rfl | rfl | rfl | rfl | rfl | rfl | rfl | rfl | rfl | rfl) <;> exact (pm_ev_step _ _ _ _).trans rfl
theorem s11_6 {sc : pm_Sc} (d : Nat) (k : Nat) (x : Nat → Nat → Int32) (w : Nat → Nat → Bool) (f : Nat → Nat → Nat) (hk : k ∈ pm_LP) : pm_ev (pm_call pm_Tf sc (d + 0)) sc 2 pm_c11 28 [(1, pm_b (q10 k x w f)), (0, pm_r k)] [pm_b (q12 (x (k + 1) 1) (q10 k x w f) x w f)] (pm_u x w f) = (if (q12 (x (k + 1) 1) (q10 k x w f) x w f) = true then some (some (pm_b true), pm_u x w f) else some (some (pm_b false), pm_u x w f)) := by
  (simp only [pm_LP, List.mem_cons, List.not_mem_nil, or_false] at hk; rcases hk with rfl | rfl | rfl | rfl | rfl | rfl | rfl | rfl | rfl | rfl | rfl | rfl | rfl | rfl | rfl | rfl) <;> exact (pm_ev_iter [1, 12, 25] 3000 _ _ _ _).trans rfl
def q11 (k : Nat) (x : Nat → Nat → Int32) (w : Nat → Nat → Bool) (f : Nat → Nat → Nat) : Bool := (if (q12 (x (k + 1) 0) (q10 k x w f) x w f) = true then (if (q12 (x (k + 1) 1) (q10 k x w f) x w f) = true then true else false) else false)
theorem e11 {sc : pm_Sc} (d : Nat) (k : Nat) (x : Nat → Nat → Int32) (w : Nat → Nat → Bool) (f : Nat → Nat → Nat) (hk : k ∈ pm_LP) : pm_ev (pm_call pm_Tf sc (d + 0)) sc 2 pm_c11 0 [(0, pm_r k)] [] (pm_u x w f) = some (pm_g2 x w f (q11 k x w f)) := (s11_0 d k x w f hk).trans (((s11_1 d k x w f hk).trans ((pm_call1_of (z10 (d + 0) k x w f hk)).trans ((s11_2 d k x w f hk).trans (((s11_3 d k x w f hk).trans ((pm_call1_of (z12 (d + 0) (x (k + 1) 0) (q10 k x w f) x w f)).trans ((s11_4 d k x w f hk).trans (pm_iteG (g := (fun t => some (pm_g2 x w f t))) (fun _ => ((s11_5 d k x w f hk).trans ((pm_call1_of (z12 (d + 0) (x (k + 1) 1) (q10 k x w f) x w f)).trans ((s11_6 d k x w f hk).trans (pm_iteG (g := (fun t => some (pm_g2 x w f t))) (fun _ => rfl) (fun _ => rfl)))))) (fun _ => rfl))))))))))
theorem z11 {sc : pm_Sc} (d : Nat) (k : Nat) (x : Nat → Nat → Int32) (w : Nat → Nat → Bool) (f : Nat → Nat → Nat) (hk : k ∈ pm_LP) : pm_call pm_Tf sc (d + 1) 11 [pm_r k] (pm_u x w f) = some (pm_g2 x w f (q11 k x w f)) := e11 d k x w f hk
theorem s9_0 {c : Nat → List pm_V → pm_S → Option pm_Rs} {sc : pm_Sc} (k : Nat) (x : Nat → Nat → Int32) (w : Nat → Nat → Bool) (f : Nat → Nat → Nat) (hk : k ∈ pm_LP) : pm_ev c sc 0 pm_c9 0 [(0, pm_r k)] [] (pm_u x w f) = (if 3 ≤ (x k 2) then some (none, pm_u x (pm_up w k 8 true) f) else some (none, pm_u (pm_up (pm_up x k 2 ((x k 2) + (1 : Int32))) k 3 41) w f)) := by
  (simp only [pm_LP, List.mem_cons, List.not_mem_nil, or_false] at hk; rcases hk with rfl | rfl | rfl | rfl | rfl | rfl | rfl | rfl | rfl | rfl | rfl | rfl | rfl | rfl | rfl | rfl) <;> exact (pm_ev_iter [] 3000 _ _ _ _).trans rfl
def q9 (k : Nat) (x : Nat → Nat → Int32) (w : Nat → Nat → Bool) (f : Nat → Nat → Nat) : (Nat → Nat → Int32) × (Nat → Nat → Bool) := (if 3 ≤ (x k 2) then (x, pm_up w k 8 true) else (pm_up (pm_up x k 2 ((x k 2) + (1 : Int32))) k 3 41, w))
theorem e9 {c : Nat → List pm_V → pm_S → Option pm_Rs} {sc : pm_Sc} (k : Nat) (x : Nat → Nat → Int32) (w : Nat → Nat → Bool) (f : Nat → Nat → Nat) (hk : k ∈ pm_LP) : pm_ev c sc 0 pm_c9 0 [(0, pm_r k)] [] (pm_u x w f) = some (pm_h0 f (q9 k x w f)) := (s9_0 k x w f hk).trans (pm_iteG (g := (fun t => some (pm_h0 f t))) (fun _ => rfl) (fun _ => rfl))
theorem z9 {sc : pm_Sc} (d : Nat) (k : Nat) (x : Nat → Nat → Int32) (w : Nat → Nat → Bool) (f : Nat → Nat → Nat) (hk : k ∈ pm_LP) : pm_call pm_Tf sc (d + 0) 9 [pm_r k] (pm_u x w f) = some (pm_h0 f (q9 k x w f)) := pm_call_0 (fun _ => e9 k x w f hk) d
theorem s8_78_0 {sc : pm_Sc} (d : Nat) (k : Nat) (x : Nat → Nat → Int32) (w : Nat → Nat → Bool) (f : Nat → Nat → Nat) (hk : k ∈ pm_LP) : pm_ev (pm_call pm_Tf sc (d + 0)) sc 0 pm_c8 78 [(0, pm_r k)] [] (pm_u x w f) = some (none, pm_u x w f) := by
  (simp only [pm_LP, List.mem_cons, List.not_mem_nil, or_false] at hk; rcases hk with rfl | rfl | rfl | rfl | rfl | rfl | rfl | rfl | rfl | rfl | rfl | rfl | rfl | rfl | rfl | rfl) <;> exact (pm_ev_iter [75] 3000 _ _ _ _).trans rfl
def q8_78 (k : Nat) (x : Nat → Nat → Int32) (w : Nat → Nat → Bool) (f : Nat → Nat → Nat) : (Nat → Nat → Int32) × (Nat → Nat → Bool) := (x, w)
theorem e8_78 {sc : pm_Sc} (d : Nat) (k : Nat) (x : Nat → Nat → Int32) (w : Nat → Nat → Bool) (f : Nat → Nat → Nat) (hk : k ∈ pm_LP) : pm_ev (pm_call pm_Tf sc (d + 0)) sc 0 pm_c8 78 [(0, pm_r k)] [] (pm_u x w f) = some (pm_h0 f (q8_78 k x w f)) := (s8_78_0 d k x w f hk).trans (rfl)
theorem s8_0 {sc : pm_Sc} (d : Nat) (k : Nat) (x : Nat → Nat → Int32) (w : Nat → Nat → Bool) (f : Nat → Nat → Nat) (hk : k ∈ pm_LP) : pm_ev (pm_call pm_Tf sc (d + 0)) sc 0 pm_c8 0 [(0, pm_r k)] [] (pm_u x w f) = (if (w k 7) = true then some (none, pm_u (pm_up x k 1 (if ((x k 1) + (10 : Int32)) < 100 then (x k 1) + (10 : Int32) else 100)) w f) else (if (w k 5) = true then some (none, pm_u (pm_up x k 1 (if ((x k 1) + (5 : Int32)) < 100 then (x k 1) + (5 : Int32) else 100)) w f) else (if (x k 1) ≤ 0 then some (none, pm_u (pm_up x k 1 (if 0 < ((x k 1) - (5 : Int32)) then (x k 1) - (5 : Int32) else 0)) w f) else (if 40 < (x k 1) then some (none, pm_u (pm_up x k 1 (if 0 < ((x k 1) - (5 : Int32)) then (x k 1) - (5 : Int32) else 0)) w f) else (if (x k 4) ≤ 0 then some (none, pm_u (pm_up x k 1 (if 0 < ((x k 1) - (5 : Int32)) then (x k 1) - (5 : Int32) else 0)) w f) else pm_ev (pm_call pm_Tf sc (d + 0)) sc 0 pm_c8 75 [(0, pm_r k)] [pm_r k] (pm_u x w f)))))) := by
  (simp only [pm_LP, List.mem_cons, List.not_mem_nil, or_false] at hk; rcases hk with rfl | rfl | rfl | rfl | rfl | rfl | rfl | rfl | rfl | rfl | rfl | rfl | rfl | rfl | rfl | rfl) <;> exact (pm_ev_iter [75] 3000 _ _ _ _).trans rfl
theorem s8_1 {sc : pm_Sc} (d : Nat) (k : Nat) (x : Nat → Nat → Int32) (w : Nat → Nat → Bool) (f : Nat → Nat → Nat) (hk : k ∈ pm_LP) : pm_ev (pm_call pm_Tf sc (d + 0)) sc 0 pm_c8 75 [(0, pm_r k)] [pm_r k] (pm_u x w f) = pm_call1 (fun v u => pm_ev (pm_call pm_Tf sc (d + 0)) sc 0 pm_c8 78 [(0, pm_r k)] (v.toList ++ []) u) none ((pm_call pm_Tf sc (d + 0)) 9 [pm_r k] (pm_u x w f)) := by
  (simp only [pm_LP, List.mem_cons, List.not_mem_nil, or_false] at hk; rcases hk with rfl | rfl | rfl | rfl | rfl | rfl | rfl | rfl | rfl | rfl | rfl | rfl | rfl | rfl | rfl | rfl) <;> exact (pm_ev_step _ _ _ _).trans rfl
def q8 (k : Nat) (x : Nat → Nat → Int32) (w : Nat → Nat → Bool) (f : Nat → Nat → Nat) : (Nat → Nat → Int32) × (Nat → Nat → Bool) := (if (w k 7) = true then (pm_up x k 1 (if ((x k 1) + (10 : Int32)) < 100 then (x k 1) + (10 : Int32) else 100), w) else (if (w k 5) = true then (pm_up x k 1 (if ((x k 1) + (5 : Int32)) < 100 then (x k 1) + (5 : Int32) else 100), w) else (if (x k 1) ≤ 0 then (pm_up x k 1 (if 0 < ((x k 1) - (5 : Int32)) then (x k 1) - (5 : Int32) else 0), w) else (if 40 < (x k 1) then (pm_up x k 1 (if 0 < ((x k 1) - (5 : Int32)) then (x k 1) - (5 : Int32) else 0), w) else (if (x k 4) ≤ 0 then (pm_up x k 1 (if 0 < ((x k 1) - (5 : Int32)) then (x k 1) - (5 : Int32) else 0), w) else q8_78 k ((q9 k x w f).1) ((q9 k x w f).2) f)))))
theorem e8 {sc : pm_Sc} (d : Nat) (k : Nat) (x : Nat → Nat → Int32) (w : Nat → Nat → Bool) (f : Nat → Nat → Nat) (hk : k ∈ pm_LP) : pm_ev (pm_call pm_Tf sc (d + 0)) sc 0 pm_c8 0 [(0, pm_r k)] [] (pm_u x w f) = some (pm_h0 f (q8 k x w f)) := (s8_0 d k x w f hk).trans (pm_iteG (g := (fun t => some (pm_h0 f t))) (fun _ => rfl) (fun _ => pm_iteG (g := (fun t => some (pm_h0 f t))) (fun _ => rfl) (fun _ => pm_iteG (g := (fun t => some (pm_h0 f t))) (fun _ => rfl) (fun _ => pm_iteG (g := (fun t => some (pm_h0 f t))) (fun _ => rfl) (fun _ => pm_iteG (g := (fun t => some (pm_h0 f t))) (fun _ => rfl) (fun _ => ((s8_1 d k x w f hk).trans ((pm_call1_of (z9 (d + 0) k x w f hk)).trans (e8_78 d  k ((q9 k x w f).1) ((q9 k x w f).2) f hk)))))))))
theorem z8 {sc : pm_Sc} (d : Nat) (k : Nat) (x : Nat → Nat → Int32) (w : Nat → Nat → Bool) (f : Nat → Nat → Nat) (hk : k ∈ pm_LP) : pm_call pm_Tf sc (d + 1) 8 [pm_r k] (pm_u x w f) = some (pm_h0 f (q8 k x w f)) := e8 d k x w f hk
theorem s7_48_0 {sc : pm_Sc} (d : Nat) (k : Nat) (b : Bool) (x : Nat → Nat → Int32) (w : Nat → Nat → Bool) (f : Nat → Nat → Nat) (hk : k ∈ pm_LP) : pm_ev (pm_call pm_Tf sc (d + 1)) sc 0 pm_c7 48 [(0, pm_r k), (1, pm_bi b)] [] (pm_u x w f) = some (none, pm_u (pm_up (pm_up x k 4 (if 0 < ((x k 4) - (1 : Int32)) then (x k 4) - (1 : Int32) else 0)) k 3 (if 0 < ((x k 3) - (1 : Int32)) then (x k 3) - (1 : Int32) else 0)) w f) := by
  (simp only [pm_LP, List.mem_cons, List.not_mem_nil, or_false] at hk; rcases hk with rfl | rfl | rfl | rfl | rfl | rfl | rfl | rfl | rfl | rfl | rfl | rfl | rfl | rfl | rfl | rfl) <;> cases b <;> exact (pm_ev_iter [24, 28, 32, 48] 3000 _ _ _ _).trans rfl
def q7_48 (k : Nat) (b : Bool) (x : Nat → Nat → Int32) (w : Nat → Nat → Bool) (f : Nat → Nat → Nat) : (Nat → Nat → Int32) × (Nat → Nat → Bool) := (pm_up (pm_up x k 4 (if 0 < ((x k 4) - (1 : Int32)) then (x k 4) - (1 : Int32) else 0)) k 3 (if 0 < ((x k 3) - (1 : Int32)) then (x k 3) - (1 : Int32) else 0), w)
theorem e7_48 {sc : pm_Sc} (d : Nat) (k : Nat) (b : Bool) (x : Nat → Nat → Int32) (w : Nat → Nat → Bool) (f : Nat → Nat → Nat) (hk : k ∈ pm_LP) : pm_ev (pm_call pm_Tf sc (d + 1)) sc 0 pm_c7 48 [(0, pm_r k), (1, pm_bi b)] [] (pm_u x w f) = some (pm_h0 f (q7_48 k b x w f)) := (s7_48_0 d k b x w f hk).trans (rfl)
theorem s7_31_0 {sc : pm_Sc} (d : Nat) (k : Nat) (b : Bool) (x : Nat → Nat → Int32) (w : Nat → Nat → Bool) (f : Nat → Nat → Nat) (hk : k ∈ pm_LP) : pm_ev (pm_call pm_Tf sc (d + 1)) sc 0 pm_c7 31 [(0, pm_r k), (1, pm_bi b)] [] (pm_u x w f) = pm_ev (pm_call pm_Tf sc (d + 1)) sc 0 pm_c7 32 [(0, pm_r k), (1, pm_bi b)] [pm_r k] (pm_u x w f) := by
  (simp only [pm_LP, List.mem_cons, List.not_mem_nil, or_false] at hk; rcases hk with rfl | rfl | rfl | rfl | rfl | rfl | rfl | rfl | rfl | rfl | rfl | rfl | rfl | rfl | rfl | rfl) <;> cases b <;> exact (pm_ev_iter [24, 28, 32, 48] 3000 _ _ _ _).trans rfl
theorem s7_31_1 {sc : pm_Sc} (d : Nat) (k : Nat) (b : Bool) (x : Nat → Nat → Int32) (w : Nat → Nat → Bool) (f : Nat → Nat → Nat) (hk : k ∈ pm_LP) : pm_ev (pm_call pm_Tf sc (d + 1)) sc 0 pm_c7 32 [(0, pm_r k), (1, pm_bi b)] [pm_r k] (pm_u x w f) = pm_call1 (fun v u => pm_ev (pm_call pm_Tf sc (d + 1)) sc 0 pm_c7 35 [(0, pm_r k), (1, pm_bi b)] (v.toList ++ []) u) none ((pm_call pm_Tf sc (d + 1)) 10 [pm_r k] (pm_u x w f)) := by
  (simp only [pm_LP, List.mem_cons, List.not_mem_nil, or_false] at hk; rcases hk with rfl | rfl | rfl | rfl | rfl | rfl | rfl | rfl | rfl | rfl | rfl | rfl | rfl | rfl | rfl | rfl) <;> cases b <;> exact (pm_ev_step _ _ _ _).trans rfl
theorem s7_31_2 {sc : pm_Sc} (d : Nat) (k : Nat) (b : Bool) (x : Nat → Nat → Int32) (w : Nat → Nat → Bool) (f : Nat → Nat → Nat) (hk : k ∈ pm_LP) : pm_ev (pm_call pm_Tf sc (d + 1)) sc 0 pm_c7 35 [(0, pm_r k), (1, pm_bi b)] [pm_b (q10 k x w f)] (pm_u x w f) = (if (q10 k x w f) = true then pm_ev (pm_call pm_Tf sc (d + 1)) sc 0 pm_c7 48 [(0, pm_r k), (1, pm_bi b)] [] (pm_u (pm_up x k 2 0) (pm_up w k 8 false) f) else pm_ev (pm_call pm_Tf sc (d + 1)) sc 0 pm_c7 48 [(0, pm_r k), (1, pm_bi b)] [] (pm_u x w f)) := by
  (simp only [pm_LP, List.mem_cons, List.not_mem_nil, or_false] at hk; rcases hk with rfl | rfl | rfl | rfl | rfl | rfl | rfl | rfl | rfl | rfl | rfl | rfl | rfl | rfl | rfl | rfl) <;> cases b <;> exact (pm_ev_iter [24, 28, 32, 48] 3000 _ _ _ _).trans rfl
def q7_31 (k : Nat) (b : Bool) (x : Nat → Nat → Int32) (w : Nat → Nat → Bool) (f : Nat → Nat → Nat) : (Nat → Nat → Int32) × (Nat → Nat → Bool) := (if (q10 k x w f) = true then q7_48 k b (pm_up x k 2 0) (pm_up w k 8 false) f else q7_48 k b x w f)
theorem e7_31 {sc : pm_Sc} (d : Nat) (k : Nat) (b : Bool) (x : Nat → Nat → Int32) (w : Nat → Nat → Bool) (f : Nat → Nat → Nat) (hk : k ∈ pm_LP) : pm_ev (pm_call pm_Tf sc (d + 1)) sc 0 pm_c7 31 [(0, pm_r k), (1, pm_bi b)] [] (pm_u x w f) = some (pm_h0 f (q7_31 k b x w f)) := (s7_31_0 d k b x w f hk).trans (((s7_31_1 d k b x w f hk).trans ((pm_call1_of (z10 (d + 1) k x w f hk)).trans ((s7_31_2 d k b x w f hk).trans (pm_iteG (g := (fun t => some (pm_h0 f t))) (fun _ => e7_48 d  k b (pm_up x k 2 0) (pm_up w k 8 false) f hk) (fun _ => e7_48 d  k b x w f hk))))))
theorem s7_24_0 {sc : pm_Sc} (d : Nat) (k : Nat) (b : Bool) (b0 : Bool) (x : Nat → Nat → Int32) (w : Nat → Nat → Bool) (f : Nat → Nat → Nat) (hk : k ∈ pm_LP) : pm_ev (pm_call pm_Tf sc (d + 1)) sc 0 pm_c7 24 [(0, pm_r k), (1, pm_bi b)] [pm_bi b0, pm_r k] (pm_u x w f) = pm_ev (pm_call pm_Tf sc (d + 1)) sc 0 pm_c7 28 [(0, pm_r k), (1, pm_bi b)] [pm_r k] (pm_u x (pm_up w k 5 b0) f) := by
  (simp only [pm_LP, List.mem_cons, List.not_mem_nil, or_false] at hk; rcases hk with rfl | rfl | rfl | rfl | rfl | rfl | rfl | rfl | rfl | rfl | rfl | rfl | rfl | rfl | rfl | rfl) <;> cases b0 <;> cases b <;> exact (pm_ev_iter [24, 28, 32, 48] 3000 _ _ _ _).trans rfl
theorem s7_24_1 {sc : pm_Sc} (d : Nat) (k : Nat) (b : Bool) (b0 : Bool) (x : Nat → Nat → Int32) (w : Nat → Nat → Bool) (f : Nat → Nat → Nat) (hk : k ∈ pm_LP) : pm_ev (pm_call pm_Tf sc (d + 1)) sc 0 pm_c7 28 [(0, pm_r k), (1, pm_bi b)] [pm_r k] (pm_u x (pm_up w k 5 b0) f) = pm_call1 (fun v u => pm_ev (pm_call pm_Tf sc (d + 1)) sc 0 pm_c7 31 [(0, pm_r k), (1, pm_bi b)] (v.toList ++ []) u) none ((pm_call pm_Tf sc (d + 1)) 8 [pm_r k] (pm_u x (pm_up w k 5 b0) f)) := by
  (simp only [pm_LP, List.mem_cons, List.not_mem_nil, or_false] at hk; rcases hk with rfl | rfl | rfl | rfl | rfl | rfl | rfl | rfl | rfl | rfl | rfl | rfl | rfl | rfl | rfl | rfl) <;> cases b0 <;> cases b <;> exact (pm_ev_step _ _ _ _).trans rfl
def q7_24 (k : Nat) (b : Bool) (b0 : Bool) (x : Nat → Nat → Int32) (w : Nat → Nat → Bool) (f : Nat → Nat → Nat) : (Nat → Nat → Int32) × (Nat → Nat → Bool) := q7_31 k b ((q8 k x (pm_up w k 5 b0) f).1) ((q8 k x (pm_up w k 5 b0) f).2) f
theorem e7_24 {sc : pm_Sc} (d : Nat) (k : Nat) (b : Bool) (b0 : Bool) (x : Nat → Nat → Int32) (w : Nat → Nat → Bool) (f : Nat → Nat → Nat) (hk : k ∈ pm_LP) : pm_ev (pm_call pm_Tf sc (d + 1)) sc 0 pm_c7 24 [(0, pm_r k), (1, pm_bi b)] [pm_bi b0, pm_r k] (pm_u x w f) = some (pm_h0 f (q7_24 k b b0 x w f)) := (s7_24_0 d k b b0 x w f hk).trans (((s7_24_1 d k b b0 x w f hk).trans ((pm_call1_of (z8 (d + 0) k x (pm_up w k 5 b0) f hk)).trans (e7_31 d  k b ((q8 k x (pm_up w k 5 b0) f).1) ((q8 k x (pm_up w k 5 b0) f).2) f hk))))
theorem s7_0 {sc : pm_Sc} (d : Nat) (k : Nat) (b : Bool) (x : Nat → Nat → Int32) (w : Nat → Nat → Bool) (f : Nat → Nat → Nat) (hk : k ∈ pm_LP) : pm_ev (pm_call pm_Tf sc (d + 1)) sc 0 pm_c7 0 [(0, pm_r k), (1, pm_bi b)] [] (pm_u x w f) = (if b = true then (if (w k 6) = true then (if (x k 3) ≤ 0 then pm_ev (pm_call pm_Tf sc (d + 1)) sc 0 pm_c7 24 [(0, pm_r k), (1, pm_bi b)] [.inl 0, pm_r k] (pm_u x w f) else pm_ev (pm_call pm_Tf sc (d + 1)) sc 0 pm_c7 24 [(0, pm_r k), (1, pm_bi b)] [.inl 1, pm_r k] (pm_u x w f)) else pm_ev (pm_call pm_Tf sc (d + 1)) sc 0 pm_c7 24 [(0, pm_r k), (1, pm_bi b)] [.inl 1, pm_r k] (pm_u x w f)) else (if (x k 3) ≤ 0 then pm_ev (pm_call pm_Tf sc (d + 1)) sc 0 pm_c7 24 [(0, pm_r k), (1, pm_bi b)] [.inl 0, pm_r k] (pm_u x w f) else pm_ev (pm_call pm_Tf sc (d + 1)) sc 0 pm_c7 24 [(0, pm_r k), (1, pm_bi b)] [.inl 1, pm_r k] (pm_u x w f))) := by
  (simp only [pm_LP, List.mem_cons, List.not_mem_nil, or_false] at hk; rcases hk with rfl | rfl | rfl | rfl | rfl | rfl | rfl | rfl | rfl | rfl | rfl | rfl | rfl | rfl | rfl | rfl) <;> cases b <;> exact (pm_ev_iter [24, 28, 32, 48] 3000 _ _ _ _).trans rfl
def q7 (k : Nat) (b : Bool) (x : Nat → Nat → Int32) (w : Nat → Nat → Bool) (f : Nat → Nat → Nat) : (Nat → Nat → Int32) × (Nat → Nat → Bool) := (if b = true then (if (w k 6) = true then (if (x k 3) ≤ 0 then q7_24 k b false x w f else q7_24 k b true x w f) else q7_24 k b true x w f) else (if (x k 3) ≤ 0 then q7_24 k b false x w f else q7_24 k b true x w f))
theorem e7 {sc : pm_Sc} (d : Nat) (k : Nat) (b : Bool) (x : Nat → Nat → Int32) (w : Nat → Nat → Bool) (f : Nat → Nat → Nat) (hk : k ∈ pm_LP) : pm_ev (pm_call pm_Tf sc (d + 1)) sc 0 pm_c7 0 [(0, pm_r k), (1, pm_bi b)] [] (pm_u x w f) = some (pm_h0 f (q7 k b x w f)) := (s7_0 d k b x w f hk).trans (pm_iteG (g := (fun t => some (pm_h0 f t))) (fun _ => pm_iteG (g := (fun t => some (pm_h0 f t))) (fun _ => pm_iteG (g := (fun t => some (pm_h0 f t))) (fun _ => e7_24 d  k b false x w f hk) (fun _ => e7_24 d  k b true x w f hk)) (fun _ => e7_24 d  k b true x w f hk)) (fun _ => pm_iteG (g := (fun t => some (pm_h0 f t))) (fun _ => e7_24 d  k b false x w f hk) (fun _ => e7_24 d  k b true x w f hk)))
theorem z7 {sc : pm_Sc} (d : Nat) (k : Nat) (b : Bool) (x : Nat → Nat → Int32) (w : Nat → Nat → Bool) (f : Nat → Nat → Nat) (hk : k ∈ pm_LP) : pm_call pm_Tf sc (d + 2) 7 [pm_r k, pm_bi b] (pm_u x w f) = some (pm_h0 f (q7 k b x w f)) := e7 d k b x w f hk
theorem s6_0 {c : Nat → List pm_V → pm_S → Option pm_Rs} {sc : pm_Sc} (k : Nat) (x : Nat → Nat → Int32) (w : Nat → Nat → Bool) (f : Nat → Nat → Nat) (hk : k ∈ pm_LP) : pm_ev c sc 0 pm_c6 0 [(0, pm_r k)] [] (pm_u x w f) = some (none, pm_u (pm_up (pm_up (pm_up (pm_up (pm_up (pm_up x (k + 1) 0 0) (k + 1) 1 0) k 1 0) k 2 0) k 3 0) k 4 0) (pm_up (pm_up (pm_up (pm_up w k 5 false) k 6 false) k 7 false) k 8 false) f) := by
  (simp only [pm_LP, List.mem_cons, List.not_mem_nil, or_false] at hk; rcases hk with rfl | rfl | rfl | rfl | rfl | rfl | rfl | rfl | rfl | rfl | rfl | rfl | rfl | rfl | rfl | rfl) <;> exact (pm_ev_iter [] 3000 _ _ _ _).trans rfl
def q6 (k : Nat) (x : Nat → Nat → Int32) (w : Nat → Nat → Bool) (f : Nat → Nat → Nat) : (Nat → Nat → Int32) × (Nat → Nat → Bool) := (pm_up (pm_up (pm_up (pm_up (pm_up (pm_up x (k + 1) 0 0) (k + 1) 1 0) k 1 0) k 2 0) k 3 0) k 4 0, pm_up (pm_up (pm_up (pm_up w k 5 false) k 6 false) k 7 false) k 8 false)
theorem e6 {c : Nat → List pm_V → pm_S → Option pm_Rs} {sc : pm_Sc} (k : Nat) (x : Nat → Nat → Int32) (w : Nat → Nat → Bool) (f : Nat → Nat → Nat) (hk : k ∈ pm_LP) : pm_ev c sc 0 pm_c6 0 [(0, pm_r k)] [] (pm_u x w f) = some (pm_h0 f (q6 k x w f)) := (s6_0 k x w f hk).trans (rfl)
theorem z6 {sc : pm_Sc} (d : Nat) (k : Nat) (x : Nat → Nat → Int32) (w : Nat → Nat → Bool) (f : Nat → Nat → Nat) (hk : k ∈ pm_LP) : pm_call pm_Tf sc (d + 0) 6 [pm_r k] (pm_u x w f) = some (pm_h0 f (q6 k x w f)) := pm_call_0 (fun _ => e6 k x w f hk) d
theorem s13_0 {sc : pm_Sc} (d : Nat) (k : Nat) (i : Int32) (x : Nat → Nat → Int32) (w : Nat → Nat → Bool) (f : Nat → Nat → Nat) (hk : k ∈ pm_LP) : pm_ev (pm_call pm_Tf sc (d + 1)) sc 1 pm_c13 0 [(0, pm_r k), (1, .inl i)] [] (pm_u x w f) = (if i = 0 then some (some (.inl (x k 1)), pm_u x w f) else (if i = 1 then pm_ev (pm_call pm_Tf sc (d + 1)) sc 1 pm_c13 57 [(0, pm_r k), (1, .inl i)] [pm_b (w k 5)] (pm_u x w f) else (if i = 2 then pm_ev (pm_call pm_Tf sc (d + 1)) sc 1 pm_c13 62 [(0, pm_r k), (1, .inl i)] [pm_r k] (pm_u x w f) else (if i = 3 then pm_ev (pm_call pm_Tf sc (d + 1)) sc 1 pm_c13 70 [(0, pm_r k), (1, .inl i)] [pm_r k] (pm_u x w f) else (if i = 4 then some (some (.inl (x k 2)), pm_u x w f) else (if i = 5 then pm_ev (pm_call pm_Tf sc (d + 1)) sc 1 pm_c13 86 [(0, pm_r k), (1, .inl i)] [pm_b (w k 8)] (pm_u x w f) else (if i = 6 then some (some (.inl (x k 3)), pm_u x w f) else (if i = 7 then some (some (.inl (x k 4)), pm_u x w f) else some (some (.inl (-1)), pm_u x w f))))))))) := by
  (simp only [pm_LP, List.mem_cons, List.not_mem_nil, or_false] at hk; rcases hk with rfl | rfl | rfl | rfl | rfl | rfl | rfl | rfl | rfl | rfl | rfl | rfl | rfl | rfl | rfl | rfl) <;> exact (pm_ev_iter [57, 62, 65, 70, 73, 86] 3000 _ _ _ _).trans rfl
theorem s13_1 {sc : pm_Sc} (d : Nat) (k : Nat) (i : Int32) (x : Nat → Nat → Int32) (w : Nat → Nat → Bool) (f : Nat → Nat → Nat) (hk : k ∈ pm_LP) : pm_ev (pm_call pm_Tf sc (d + 1)) sc 1 pm_c13 57 [(0, pm_r k), (1, .inl i)] [pm_b (w k 5)] (pm_u x w f) = pm_call1 (fun v u => pm_ev (pm_call pm_Tf sc (d + 1)) sc 1 pm_c13 60 [(0, pm_r k), (1, .inl i)] (v.toList ++ []) u) none ((pm_call pm_Tf sc (d + 1)) 72 [pm_b (w k 5)] (pm_u x w f)) := by
  (simp only [pm_LP, List.mem_cons, List.not_mem_nil, or_false] at hk; rcases hk with rfl | rfl | rfl | rfl | rfl | rfl | rfl | rfl | rfl | rfl | rfl | rfl | rfl | rfl | rfl | rfl) <;> exact (pm_ev_step _ _ _ _).trans rfl
theorem s13_2 {sc : pm_Sc} (d : Nat) (k : Nat) (i : Int32) (x : Nat → Nat → Int32) (w : Nat → Nat → Bool) (f : Nat → Nat → Nat) (hk : k ∈ pm_LP) : pm_ev (pm_call pm_Tf sc (d + 1)) sc 1 pm_c13 60 [(0, pm_r k), (1, .inl i)] [.inl (q72 (w k 5) x w f)] (pm_u x w f) = some (some (.inl (q72 (w k 5) x w f)), pm_u x w f) := by
  (simp only [pm_LP, List.mem_cons, List.not_mem_nil, or_false] at hk; rcases hk with rfl | rfl | rfl | rfl | rfl | rfl | rfl | rfl | rfl | rfl | rfl | rfl | rfl | rfl | rfl | rfl) <;> exact (pm_ev_iter [57, 62, 65, 70, 73, 86] 3000 _ _ _ _).trans rfl
theorem s13_3 {sc : pm_Sc} (d : Nat) (k : Nat) (i : Int32) (x : Nat → Nat → Int32) (w : Nat → Nat → Bool) (f : Nat → Nat → Nat) (hk : k ∈ pm_LP) : pm_ev (pm_call pm_Tf sc (d + 1)) sc 1 pm_c13 62 [(0, pm_r k), (1, .inl i)] [pm_r k] (pm_u x w f) = pm_call1 (fun v u => pm_ev (pm_call pm_Tf sc (d + 1)) sc 1 pm_c13 65 [(0, pm_r k), (1, .inl i)] (v.toList ++ []) u) none ((pm_call pm_Tf sc (d + 1)) 10 [pm_r k] (pm_u x w f)) := by
  (simp only [pm_LP, List.mem_cons, List.not_mem_nil, or_false] at hk; rcases hk with rfl | rfl | rfl | rfl | rfl | rfl | rfl | rfl | rfl | rfl | rfl | rfl | rfl | rfl | rfl | rfl) <;> exact (pm_ev_step _ _ _ _).trans rfl
theorem s13_4 {sc : pm_Sc} (d : Nat) (k : Nat) (i : Int32) (x : Nat → Nat → Int32) (w : Nat → Nat → Bool) (f : Nat → Nat → Nat) (hk : k ∈ pm_LP) : pm_ev (pm_call pm_Tf sc (d + 1)) sc 1 pm_c13 65 [(0, pm_r k), (1, .inl i)] [pm_b (q10 k x w f)] (pm_u x w f) = pm_call1 (fun v u => pm_ev (pm_call pm_Tf sc (d + 1)) sc 1 pm_c13 68 [(0, pm_r k), (1, .inl i)] (v.toList ++ []) u) none ((pm_call pm_Tf sc (d + 1)) 72 [pm_b (q10 k x w f)] (pm_u x w f)) := by
  (simp only [pm_LP, List.mem_cons, List.not_mem_nil, or_false] at hk; rcases hk with rfl | rfl | rfl | rfl | rfl | rfl | rfl | rfl | rfl | rfl | rfl | rfl | rfl | rfl | rfl | rfl) <;> exact (pm_ev_step _ _ _ _).trans rfl
theorem s13_5 {sc : pm_Sc} (d : Nat) (k : Nat) (i : Int32) (x : Nat → Nat → Int32) (w : Nat → Nat → Bool) (f : Nat → Nat → Nat) (hk : k ∈ pm_LP) : pm_ev (pm_call pm_Tf sc (d + 1)) sc 1 pm_c13 68 [(0, pm_r k), (1, .inl i)] [.inl (q72 (q10 k x w f) x w f)] (pm_u x w f) = some (some (.inl (q72 (q10 k x w f) x w f)), pm_u x w f) := by
  (simp only [pm_LP, List.mem_cons, List.not_mem_nil, or_false] at hk; rcases hk with rfl | rfl | rfl | rfl | rfl | rfl | rfl | rfl | rfl | rfl | rfl | rfl | rfl | rfl | rfl | rfl) <;> exact (pm_ev_iter [57, 62, 65, 70, 73, 86] 3000 _ _ _ _).trans rfl
theorem s13_6 {sc : pm_Sc} (d : Nat) (k : Nat) (i : Int32) (x : Nat → Nat → Int32) (w : Nat → Nat → Bool) (f : Nat → Nat → Nat) (hk : k ∈ pm_LP) : pm_ev (pm_call pm_Tf sc (d + 1)) sc 1 pm_c13 70 [(0, pm_r k), (1, .inl i)] [pm_r k] (pm_u x w f) = pm_call1 (fun v u => pm_ev (pm_call pm_Tf sc (d + 1)) sc 1 pm_c13 73 [(0, pm_r k), (1, .inl i)] (v.toList ++ []) u) none ((pm_call pm_Tf sc (d + 1)) 11 [pm_r k] (pm_u x w f)) := by
  (simp only [pm_LP, List.mem_cons, List.not_mem_nil, or_false] at hk; rcases hk with rfl | rfl | rfl | rfl | rfl | rfl | rfl | rfl | rfl | rfl | rfl | rfl | rfl | rfl | rfl | rfl) <;> exact (pm_ev_step _ _ _ _).trans rfl
theorem s13_7 {sc : pm_Sc} (d : Nat) (k : Nat) (i : Int32) (x : Nat → Nat → Int32) (w : Nat → Nat → Bool) (f : Nat → Nat → Nat) (hk : k ∈ pm_LP) : pm_ev (pm_call pm_Tf sc (d + 1)) sc 1 pm_c13 73 [(0, pm_r k), (1, .inl i)] [pm_b (q11 k x w f)] (pm_u x w f) = pm_call1 (fun v u => pm_ev (pm_call pm_Tf sc (d + 1)) sc 1 pm_c13 76 [(0, pm_r k), (1, .inl i)] (v.toList ++ []) u) none ((pm_call pm_Tf sc (d + 1)) 72 [pm_b (q11 k x w f)] (pm_u x w f)) := by
  (simp only [pm_LP, List.mem_cons, List.not_mem_nil, or_false] at hk; rcases hk with rfl | rfl | rfl | rfl | rfl | rfl | rfl | rfl | rfl | rfl | rfl | rfl | rfl | rfl | rfl | rfl) <;> exact (pm_ev_step _ _ _ _).trans rfl
theorem s13_8 {sc : pm_Sc} (d : Nat) (k : Nat) (i : Int32) (x : Nat → Nat → Int32) (w : Nat → Nat → Bool) (f : Nat → Nat → Nat) (hk : k ∈ pm_LP) : pm_ev (pm_call pm_Tf sc (d + 1)) sc 1 pm_c13 76 [(0, pm_r k), (1, .inl i)] [.inl (q72 (q11 k x w f) x w f)] (pm_u x w f) = some (some (.inl (q72 (q11 k x w f) x w f)), pm_u x w f) := by
  (simp only [pm_LP, List.mem_cons, List.not_mem_nil, or_false] at hk; rcases hk with rfl | rfl | rfl | rfl | rfl | rfl | rfl | rfl | rfl | rfl | rfl | rfl | rfl | rfl | rfl | rfl) <;> exact (pm_ev_iter [57, 62, 65, 70, 73, 86] 3000 _ _ _ _).trans rfl
theorem s13_9 {sc : pm_Sc} (d : Nat) (k : Nat) (i : Int32) (x : Nat → Nat → Int32) (w : Nat → Nat → Bool) (f : Nat → Nat → Nat) (hk : k ∈ pm_LP) : pm_ev (pm_call pm_Tf sc (d + 1)) sc 1 pm_c13 86 [(0, pm_r k), (1, .inl i)] [pm_b (w k 8)] (pm_u x w f) = pm_call1 (fun v u => pm_ev (pm_call pm_Tf sc (d + 1)) sc 1 pm_c13 89 [(0, pm_r k), (1, .inl i)] (v.toList ++ []) u) none ((pm_call pm_Tf sc (d + 1)) 72 [pm_b (w k 8)] (pm_u x w f)) := by
  (simp only [pm_LP, List.mem_cons, List.not_mem_nil, or_false] at hk; rcases hk with rfl | rfl | rfl | rfl | rfl | rfl | rfl | rfl | rfl | rfl | rfl | rfl | rfl | rfl | rfl | rfl) <;> exact (pm_ev_step _ _ _ _).trans rfl
theorem s13_10 {sc : pm_Sc} (d : Nat) (k : Nat) (i : Int32) (x : Nat → Nat → Int32) (w : Nat → Nat → Bool) (f : Nat → Nat → Nat) (hk : k ∈ pm_LP) : pm_ev (pm_call pm_Tf sc (d + 1)) sc 1 pm_c13 89 [(0, pm_r k), (1, .inl i)] [.inl (q72 (w k 8) x w f)] (pm_u x w f) = some (some (.inl (q72 (w k 8) x w f)), pm_u x w f) := by
  (simp only [pm_LP, List.mem_cons, List.not_mem_nil, or_false] at hk; rcases hk with rfl | rfl | rfl | rfl | rfl | rfl | rfl | rfl | rfl | rfl | rfl | rfl | rfl | rfl | rfl | rfl) <;> exact (pm_ev_iter [57, 62, 65, 70, 73, 86] 3000 _ _ _ _).trans rfl
def q13 (k : Nat) (i : Int32) (x : Nat → Nat → Int32) (w : Nat → Nat → Bool) (f : Nat → Nat → Nat) : Int32 := (if i = 0 then x k 1 else (if i = 1 then (q72 (w k 5) x w f) else (if i = 2 then (q72 (q10 k x w f) x w f) else (if i = 3 then (q72 (q11 k x w f) x w f) else (if i = 4 then x k 2 else (if i = 5 then (q72 (w k 8) x w f) else (if i = 6 then x k 3 else (if i = 7 then x k 4 else (-1)))))))))
theorem e13 {sc : pm_Sc} (d : Nat) (k : Nat) (i : Int32) (x : Nat → Nat → Int32) (w : Nat → Nat → Bool) (f : Nat → Nat → Nat) (hk : k ∈ pm_LP) : pm_ev (pm_call pm_Tf sc (d + 1)) sc 1 pm_c13 0 [(0, pm_r k), (1, .inl i)] [] (pm_u x w f) = some (pm_g1 x w f (q13 k i x w f)) := (s13_0 d k i x w f hk).trans (pm_iteG (g := (fun t => some (pm_g1 x w f t))) (fun _ => rfl) (fun _ => pm_iteG (g := (fun t => some (pm_g1 x w f t))) (fun _ => ((s13_1 d k i x w f hk).trans ((pm_call1_of (z72 (d + 1) (w k 5) x w f)).trans ((s13_2 d k i x w f hk).trans (rfl))))) (fun _ => pm_iteG (g := (fun t => some (pm_g1 x w f t))) (fun _ => ((s13_3 d k i x w f hk).trans ((pm_call1_of (z10 (d + 1) k x w f hk)).trans (((s13_4 d k i x w f hk).trans ((pm_call1_of (z72 (d + 1) (q10 k x w f) x w f)).trans ((s13_5 d k i x w f hk).trans (rfl)))))))) (fun _ => pm_iteG (g := (fun t => some (pm_g1 x w f t))) (fun _ => ((s13_6 d k i x w f hk).trans ((pm_call1_of (z11 (d + 0) k x w f hk)).trans (((s13_7 d k i x w f hk).trans ((pm_call1_of (z72 (d + 1) (q11 k x w f) x w f)).trans ((s13_8 d k i x w f hk).trans (rfl)))))))) (fun _ => pm_iteG (g := (fun t => some (pm_g1 x w f t))) (fun _ => rfl) (fun _ => pm_iteG (g := (fun t => some (pm_g1 x w f t))) (fun _ => ((s13_9 d k i x w f hk).trans ((pm_call1_of (z72 (d + 1) (w k 8) x w f)).trans ((s13_10 d k i x w f hk).trans (rfl))))) (fun _ => pm_iteG (g := (fun t => some (pm_g1 x w f t))) (fun _ => rfl) (fun _ => pm_iteG (g := (fun t => some (pm_g1 x w f t))) (fun _ => rfl) (fun _ => rfl)))))))))
theorem z13 {sc : pm_Sc} (d : Nat) (k : Nat) (i : Int32) (x : Nat → Nat → Int32) (w : Nat → Nat → Bool) (f : Nat → Nat → Nat) (hk : k ∈ pm_LP) : pm_call pm_Tf sc (d + 2) 13 [pm_r k, .inl i] (pm_u x w f) = some (pm_g1 x w f (q13 k i x w f)) := e13 d k i x w f hk
end
section
/-! Side, Train, Platform (printed by wip/gen/dec.py). -/
theorem s25a_0 {c : Nat → List pm_V → pm_S → Option pm_Rs} {sc : pm_Sc}  (x : Nat → Nat → Int32) (w : Nat → Nat → Bool) (f : Nat → Nat → Nat) : pm_ev c sc 1 pm_c25 0 [(0, pm_r 29)] [] (pm_u x w f) = (if (x 31 1) = 0 then some (some (.inl (-2)), pm_u x w f) else some (some (.inl ((x 29 4) - ((x 31 1) * (5 : Int32)))), pm_u x w f)) := by
  exact (pm_ev_iter [] 3000 _ _ _ _).trans rfl
def q25a (x : Nat → Nat → Int32) (w : Nat → Nat → Bool) (f : Nat → Nat → Nat) : Int32 := (if (x 31 1) = 0 then (-2) else (x 29 4) - ((x 31 1) * (5 : Int32)))
theorem e25a {c : Nat → List pm_V → pm_S → Option pm_Rs} {sc : pm_Sc}  (x : Nat → Nat → Int32) (w : Nat → Nat → Bool) (f : Nat → Nat → Nat) : pm_ev c sc 1 pm_c25 0 [(0, pm_r 29)] [] (pm_u x w f) = some (pm_g1 x w f (q25a x w f)) := (s25a_0  x w f).trans (pm_iteG (g := (fun t => some (pm_g1 x w f t))) (fun _ => rfl) (fun _ => rfl))
theorem z25a {sc : pm_Sc} (d : Nat) (x : Nat → Nat → Int32) (w : Nat → Nat → Bool) (f : Nat → Nat → Nat) : pm_call pm_Tf sc (d + 0) 25 [pm_r 29] (pm_u x w f) = some (pm_g1 x w f (q25a x w f)) := pm_call_0 (fun _ => e25a x w f) d
theorem s26a_0 {sc : pm_Sc} (d : Nat)  (x : Nat → Nat → Int32) (w : Nat → Nat → Bool) (f : Nat → Nat → Nat) : pm_ev (pm_call pm_Tf sc (d + 0)) sc 2 pm_c26 0 [(0, pm_r 29)] [] (pm_u x w f) = pm_ev (pm_call pm_Tf sc (d + 0)) sc 2 pm_c26 1 [(0, pm_r 29)] [pm_r 29] (pm_u x w f) := by
  exact (pm_ev_iter [1] 3000 _ _ _ _).trans rfl
theorem s26a_1 {sc : pm_Sc} (d : Nat)  (x : Nat → Nat → Int32) (w : Nat → Nat → Bool) (f : Nat → Nat → Nat) : pm_ev (pm_call pm_Tf sc (d + 0)) sc 2 pm_c26 1 [(0, pm_r 29)] [pm_r 29] (pm_u x w f) = pm_call1 (fun v u => pm_ev (pm_call pm_Tf sc (d + 0)) sc 2 pm_c26 4 [(0, pm_r 29)] (v.toList ++ []) u) none ((pm_call pm_Tf sc (d + 0)) 25 [pm_r 29] (pm_u x w f)) := by
  exact (pm_ev_step _ _ _ _).trans rfl
theorem s26a_2 {sc : pm_Sc} (d : Nat)  (x : Nat → Nat → Int32) (w : Nat → Nat → Bool) (f : Nat → Nat → Nat) : pm_ev (pm_call pm_Tf sc (d + 0)) sc 2 pm_c26 4 [(0, pm_r 29)] [.inl (q25a x w f)] (pm_u x w f) = (if (q25a x w f) = (-2) then some (some (pm_b false), pm_u x w f) else (if 25 < (q25a x w f) then some (some (pm_b false), pm_u x w f) else some (some (pm_b true), pm_u x w f))) := by
  exact (pm_ev_iter [1] 3000 _ _ _ _).trans rfl
def q26a (x : Nat → Nat → Int32) (w : Nat → Nat → Bool) (f : Nat → Nat → Nat) : Bool := (if (q25a x w f) = (-2) then false else (if 25 < (q25a x w f) then false else true))
theorem e26a {sc : pm_Sc} (d : Nat)  (x : Nat → Nat → Int32) (w : Nat → Nat → Bool) (f : Nat → Nat → Nat) : pm_ev (pm_call pm_Tf sc (d + 0)) sc 2 pm_c26 0 [(0, pm_r 29)] [] (pm_u x w f) = some (pm_g2 x w f (q26a x w f)) := (s26a_0 d  x w f).trans (((s26a_1 d  x w f).trans ((pm_call1_of (z25a (d + 0) x w f)).trans ((s26a_2 d  x w f).trans (pm_iteG (g := (fun t => some (pm_g2 x w f t))) (fun _ => rfl) (fun _ => pm_iteG (g := (fun t => some (pm_g2 x w f t))) (fun _ => rfl) (fun _ => rfl)))))))
theorem z26a {sc : pm_Sc} (d : Nat) (x : Nat → Nat → Int32) (w : Nat → Nat → Bool) (f : Nat → Nat → Nat) : pm_call pm_Tf sc (d + 1) 26 [pm_r 29] (pm_u x w f) = some (pm_g2 x w f (q26a x w f)) := e26a d x w f
theorem s27a_0 {sc : pm_Sc} (d : Nat)  (x : Nat → Nat → Int32) (w : Nat → Nat → Bool) (f : Nat → Nat → Nat) : pm_ev (pm_call pm_Tf sc (d + 0)) sc 2 pm_c27 0 [(0, pm_r 29)] [] (pm_u x w f) = pm_ev (pm_call pm_Tf sc (d + 0)) sc 2 pm_c27 1 [(0, pm_r 29)] [pm_r 29] (pm_u x w f) := by
  exact (pm_ev_iter [1] 3000 _ _ _ _).trans rfl
theorem s27a_1 {sc : pm_Sc} (d : Nat)  (x : Nat → Nat → Int32) (w : Nat → Nat → Bool) (f : Nat → Nat → Nat) : pm_ev (pm_call pm_Tf sc (d + 0)) sc 2 pm_c27 1 [(0, pm_r 29)] [pm_r 29] (pm_u x w f) = pm_call1 (fun v u => pm_ev (pm_call pm_Tf sc (d + 0)) sc 2 pm_c27 4 [(0, pm_r 29)] (v.toList ++ []) u) none ((pm_call pm_Tf sc (d + 0)) 25 [pm_r 29] (pm_u x w f)) := by
  exact (pm_ev_step _ _ _ _).trans rfl
theorem s27a_2 {sc : pm_Sc} (d : Nat)  (x : Nat → Nat → Int32) (w : Nat → Nat → Bool) (f : Nat → Nat → Nat) : pm_ev (pm_call pm_Tf sc (d + 0)) sc 2 pm_c27 4 [(0, pm_r 29)] [.inl (q25a x w f)] (pm_u x w f) = (if (q25a x w f) = (-2) then some (some (pm_b true), pm_u x w f) else (if (q25a x w f) ≤ 75 then some (some (pm_b false), pm_u x w f) else some (some (pm_b true), pm_u x w f))) := by
  exact (pm_ev_iter [1] 3000 _ _ _ _).trans rfl
def q27a (x : Nat → Nat → Int32) (w : Nat → Nat → Bool) (f : Nat → Nat → Nat) : Bool := (if (q25a x w f) = (-2) then true else (if (q25a x w f) ≤ 75 then false else true))
theorem e27a {sc : pm_Sc} (d : Nat)  (x : Nat → Nat → Int32) (w : Nat → Nat → Bool) (f : Nat → Nat → Nat) : pm_ev (pm_call pm_Tf sc (d + 0)) sc 2 pm_c27 0 [(0, pm_r 29)] [] (pm_u x w f) = some (pm_g2 x w f (q27a x w f)) := (s27a_0 d  x w f).trans (((s27a_1 d  x w f).trans ((pm_call1_of (z25a (d + 0) x w f)).trans ((s27a_2 d  x w f).trans (pm_iteG (g := (fun t => some (pm_g2 x w f t))) (fun _ => rfl) (fun _ => pm_iteG (g := (fun t => some (pm_g2 x w f t))) (fun _ => rfl) (fun _ => rfl)))))))
theorem z27a {sc : pm_Sc} (d : Nat) (x : Nat → Nat → Int32) (w : Nat → Nat → Bool) (f : Nat → Nat → Nat) : pm_call pm_Tf sc (d + 1) 27 [pm_r 29] (pm_u x w f) = some (pm_g2 x w f (q27a x w f)) := e27a d x w f
theorem s28a_0 {sc : pm_Sc} (d : Nat)  (x : Nat → Nat → Int32) (w : Nat → Nat → Bool) (f : Nat → Nat → Nat) : pm_ev (pm_call pm_Tf sc (d + 1)) sc 1 pm_c28 0 [(0, pm_r 29)] [] (pm_u x w f) = pm_ev (pm_call pm_Tf sc (d + 1)) sc 1 pm_c28 17 [(2, .inl 0), (1, .inl 0), (0, pm_r 29)] [pm_r 32, .inl 0] (pm_u x w f) := by
  exact (pm_ev_iter [17, 20] 3000 _ _ _ _).trans rfl
theorem s28a_1 {sc : pm_Sc} (d : Nat)  (x : Nat → Nat → Int32) (w : Nat → Nat → Bool) (f : Nat → Nat → Nat) : pm_ev (pm_call pm_Tf sc (d + 1)) sc 1 pm_c28 17 [(2, .inl 0), (1, .inl 0), (0, pm_r 29)] [pm_r 32, .inl 0] (pm_u x w f) = pm_call1 (fun v u => pm_ev (pm_call pm_Tf sc (d + 1)) sc 1 pm_c28 20 [(2, .inl 0), (1, .inl 0), (0, pm_r 29)] (v.toList ++ [.inl 0]) u) none ((pm_call pm_Tf sc (d + 1)) 11 [pm_r 32] (pm_u x w f)) := by
  exact (pm_ev_step _ _ _ _).trans rfl
theorem s28a_2 {sc : pm_Sc} (d : Nat)  (x : Nat → Nat → Int32) (w : Nat → Nat → Bool) (f : Nat → Nat → Nat) : pm_ev (pm_call pm_Tf sc (d + 1)) sc 1 pm_c28 20 [(2, .inl 0), (1, .inl 0), (0, pm_r 29)] [pm_b (q11 32 x w f), .inl 0] (pm_u x w f) = pm_call1 (fun v u => pm_ev (pm_call pm_Tf sc (d + 1)) sc 1 pm_c28 23 [(2, .inl 0), (1, .inl 0), (0, pm_r 29)] (v.toList ++ [.inl 0]) u) none ((pm_call pm_Tf sc (d + 1)) 72 [pm_b (q11 32 x w f)] (pm_u x w f)) := by
  exact (pm_ev_step _ _ _ _).trans rfl
theorem s28a_3 {sc : pm_Sc} (d : Nat)  (x : Nat → Nat → Int32) (w : Nat → Nat → Bool) (f : Nat → Nat → Nat) : pm_ev (pm_call pm_Tf sc (d + 1)) sc 1 pm_c28 23 [(2, .inl 0), (1, .inl 0), (0, pm_r 29)] [.inl (q72 (q11 32 x w f) x w f), .inl 0] (pm_u x w f) = pm_ev (pm_call pm_Tf sc (d + 1)) sc 1 pm_c28 17 [(2, .inl 1), (1, .inl ((0 : Int32) + (q72 (q11 32 x w f) x w f))), (0, pm_r 29)] [pm_r 34, .inl ((0 : Int32) + (q72 (q11 32 x w f) x w f))] (pm_u x w f) := by
  exact (pm_ev_iter [17, 20] 3000 _ _ _ _).trans rfl
theorem s28a_4 {sc : pm_Sc} (d : Nat)  (x : Nat → Nat → Int32) (w : Nat → Nat → Bool) (f : Nat → Nat → Nat) : pm_ev (pm_call pm_Tf sc (d + 1)) sc 1 pm_c28 17 [(2, .inl 1), (1, .inl ((0 : Int32) + (q72 (q11 32 x w f) x w f))), (0, pm_r 29)] [pm_r 34, .inl ((0 : Int32) + (q72 (q11 32 x w f) x w f))] (pm_u x w f) = pm_call1 (fun v u => pm_ev (pm_call pm_Tf sc (d + 1)) sc 1 pm_c28 20 [(2, .inl 1), (1, .inl ((0 : Int32) + (q72 (q11 32 x w f) x w f))), (0, pm_r 29)] (v.toList ++ [.inl ((0 : Int32) + (q72 (q11 32 x w f) x w f))]) u) none ((pm_call pm_Tf sc (d + 1)) 11 [pm_r 34] (pm_u x w f)) := by
  exact (pm_ev_step _ _ _ _).trans rfl
theorem s28a_5 {sc : pm_Sc} (d : Nat)  (x : Nat → Nat → Int32) (w : Nat → Nat → Bool) (f : Nat → Nat → Nat) : pm_ev (pm_call pm_Tf sc (d + 1)) sc 1 pm_c28 20 [(2, .inl 1), (1, .inl ((0 : Int32) + (q72 (q11 32 x w f) x w f))), (0, pm_r 29)] [pm_b (q11 34 x w f), .inl ((0 : Int32) + (q72 (q11 32 x w f) x w f))] (pm_u x w f) = pm_call1 (fun v u => pm_ev (pm_call pm_Tf sc (d + 1)) sc 1 pm_c28 23 [(2, .inl 1), (1, .inl ((0 : Int32) + (q72 (q11 32 x w f) x w f))), (0, pm_r 29)] (v.toList ++ [.inl ((0 : Int32) + (q72 (q11 32 x w f) x w f))]) u) none ((pm_call pm_Tf sc (d + 1)) 72 [pm_b (q11 34 x w f)] (pm_u x w f)) := by
  exact (pm_ev_step _ _ _ _).trans rfl
theorem s28a_6 {sc : pm_Sc} (d : Nat)  (x : Nat → Nat → Int32) (w : Nat → Nat → Bool) (f : Nat → Nat → Nat) : pm_ev (pm_call pm_Tf sc (d + 1)) sc 1 pm_c28 23 [(2, .inl 1), (1, .inl ((0 : Int32) + (q72 (q11 32 x w f) x w f))), (0, pm_r 29)] [.inl (q72 (q11 34 x w f) x w f), .inl ((0 : Int32) + (q72 (q11 32 x w f) x w f))] (pm_u x w f) = pm_ev (pm_call pm_Tf sc (d + 1)) sc 1 pm_c28 17 [(2, .inl 2), (1, .inl (((0 : Int32) + (q72 (q11 32 x w f) x w f)) + (q72 (q11 34 x w f) x w f))), (0, pm_r 29)] [pm_r 36, .inl (((0 : Int32) + (q72 (q11 32 x w f) x w f)) + (q72 (q11 34 x w f) x w f))] (pm_u x w f) := by
  exact (pm_ev_iter [17, 20] 3000 _ _ _ _).trans rfl
theorem s28a_7 {sc : pm_Sc} (d : Nat)  (x : Nat → Nat → Int32) (w : Nat → Nat → Bool) (f : Nat → Nat → Nat) : pm_ev (pm_call pm_Tf sc (d + 1)) sc 1 pm_c28 17 [(2, .inl 2), (1, .inl (((0 : Int32) + (q72 (q11 32 x w f) x w f)) + (q72 (q11 34 x w f) x w f))), (0, pm_r 29)] [pm_r 36, .inl (((0 : Int32) + (q72 (q11 32 x w f) x w f)) + (q72 (q11 34 x w f) x w f))] (pm_u x w f) = pm_call1 (fun v u => pm_ev (pm_call pm_Tf sc (d + 1)) sc 1 pm_c28 20 [(2, .inl 2), (1, .inl (((0 : Int32) + (q72 (q11 32 x w f) x w f)) + (q72 (q11 34 x w f) x w f))), (0, pm_r 29)] (v.toList ++ [.inl (((0 : Int32) + (q72 (q11 32 x w f) x w f)) + (q72 (q11 34 x w f) x w f))]) u) none ((pm_call pm_Tf sc (d + 1)) 11 [pm_r 36] (pm_u x w f)) := by
  exact (pm_ev_step _ _ _ _).trans rfl
theorem s28a_8 {sc : pm_Sc} (d : Nat)  (x : Nat → Nat → Int32) (w : Nat → Nat → Bool) (f : Nat → Nat → Nat) : pm_ev (pm_call pm_Tf sc (d + 1)) sc 1 pm_c28 20 [(2, .inl 2), (1, .inl (((0 : Int32) + (q72 (q11 32 x w f) x w f)) + (q72 (q11 34 x w f) x w f))), (0, pm_r 29)] [pm_b (q11 36 x w f), .inl (((0 : Int32) + (q72 (q11 32 x w f) x w f)) + (q72 (q11 34 x w f) x w f))] (pm_u x w f) = pm_call1 (fun v u => pm_ev (pm_call pm_Tf sc (d + 1)) sc 1 pm_c28 23 [(2, .inl 2), (1, .inl (((0 : Int32) + (q72 (q11 32 x w f) x w f)) + (q72 (q11 34 x w f) x w f))), (0, pm_r 29)] (v.toList ++ [.inl (((0 : Int32) + (q72 (q11 32 x w f) x w f)) + (q72 (q11 34 x w f) x w f))]) u) none ((pm_call pm_Tf sc (d + 1)) 72 [pm_b (q11 36 x w f)] (pm_u x w f)) := by
  exact (pm_ev_step _ _ _ _).trans rfl
theorem s28a_9 {sc : pm_Sc} (d : Nat)  (x : Nat → Nat → Int32) (w : Nat → Nat → Bool) (f : Nat → Nat → Nat) : pm_ev (pm_call pm_Tf sc (d + 1)) sc 1 pm_c28 23 [(2, .inl 2), (1, .inl (((0 : Int32) + (q72 (q11 32 x w f) x w f)) + (q72 (q11 34 x w f) x w f))), (0, pm_r 29)] [.inl (q72 (q11 36 x w f) x w f), .inl (((0 : Int32) + (q72 (q11 32 x w f) x w f)) + (q72 (q11 34 x w f) x w f))] (pm_u x w f) = pm_ev (pm_call pm_Tf sc (d + 1)) sc 1 pm_c28 17 [(2, .inl 3), (1, .inl ((((0 : Int32) + (q72 (q11 32 x w f) x w f)) + (q72 (q11 34 x w f) x w f)) + (q72 (q11 36 x w f) x w f))), (0, pm_r 29)] [pm_r 38, .inl ((((0 : Int32) + (q72 (q11 32 x w f) x w f)) + (q72 (q11 34 x w f) x w f)) + (q72 (q11 36 x w f) x w f))] (pm_u x w f) := by
  exact (pm_ev_iter [17, 20] 3000 _ _ _ _).trans rfl
theorem s28a_10 {sc : pm_Sc} (d : Nat)  (x : Nat → Nat → Int32) (w : Nat → Nat → Bool) (f : Nat → Nat → Nat) : pm_ev (pm_call pm_Tf sc (d + 1)) sc 1 pm_c28 17 [(2, .inl 3), (1, .inl ((((0 : Int32) + (q72 (q11 32 x w f) x w f)) + (q72 (q11 34 x w f) x w f)) + (q72 (q11 36 x w f) x w f))), (0, pm_r 29)] [pm_r 38, .inl ((((0 : Int32) + (q72 (q11 32 x w f) x w f)) + (q72 (q11 34 x w f) x w f)) + (q72 (q11 36 x w f) x w f))] (pm_u x w f) = pm_call1 (fun v u => pm_ev (pm_call pm_Tf sc (d + 1)) sc 1 pm_c28 20 [(2, .inl 3), (1, .inl ((((0 : Int32) + (q72 (q11 32 x w f) x w f)) + (q72 (q11 34 x w f) x w f)) + (q72 (q11 36 x w f) x w f))), (0, pm_r 29)] (v.toList ++ [.inl ((((0 : Int32) + (q72 (q11 32 x w f) x w f)) + (q72 (q11 34 x w f) x w f)) + (q72 (q11 36 x w f) x w f))]) u) none ((pm_call pm_Tf sc (d + 1)) 11 [pm_r 38] (pm_u x w f)) := by
  exact (pm_ev_step _ _ _ _).trans rfl
theorem s28a_11 {sc : pm_Sc} (d : Nat)  (x : Nat → Nat → Int32) (w : Nat → Nat → Bool) (f : Nat → Nat → Nat) : pm_ev (pm_call pm_Tf sc (d + 1)) sc 1 pm_c28 20 [(2, .inl 3), (1, .inl ((((0 : Int32) + (q72 (q11 32 x w f) x w f)) + (q72 (q11 34 x w f) x w f)) + (q72 (q11 36 x w f) x w f))), (0, pm_r 29)] [pm_b (q11 38 x w f), .inl ((((0 : Int32) + (q72 (q11 32 x w f) x w f)) + (q72 (q11 34 x w f) x w f)) + (q72 (q11 36 x w f) x w f))] (pm_u x w f) = pm_call1 (fun v u => pm_ev (pm_call pm_Tf sc (d + 1)) sc 1 pm_c28 23 [(2, .inl 3), (1, .inl ((((0 : Int32) + (q72 (q11 32 x w f) x w f)) + (q72 (q11 34 x w f) x w f)) + (q72 (q11 36 x w f) x w f))), (0, pm_r 29)] (v.toList ++ [.inl ((((0 : Int32) + (q72 (q11 32 x w f) x w f)) + (q72 (q11 34 x w f) x w f)) + (q72 (q11 36 x w f) x w f))]) u) none ((pm_call pm_Tf sc (d + 1)) 72 [pm_b (q11 38 x w f)] (pm_u x w f)) := by
  exact (pm_ev_step _ _ _ _).trans rfl
theorem s28a_12 {sc : pm_Sc} (d : Nat)  (x : Nat → Nat → Int32) (w : Nat → Nat → Bool) (f : Nat → Nat → Nat) : pm_ev (pm_call pm_Tf sc (d + 1)) sc 1 pm_c28 23 [(2, .inl 3), (1, .inl ((((0 : Int32) + (q72 (q11 32 x w f) x w f)) + (q72 (q11 34 x w f) x w f)) + (q72 (q11 36 x w f) x w f))), (0, pm_r 29)] [.inl (q72 (q11 38 x w f) x w f), .inl ((((0 : Int32) + (q72 (q11 32 x w f) x w f)) + (q72 (q11 34 x w f) x w f)) + (q72 (q11 36 x w f) x w f))] (pm_u x w f) = pm_ev (pm_call pm_Tf sc (d + 1)) sc 1 pm_c28 17 [(2, .inl 4), (1, .inl (((((0 : Int32) + (q72 (q11 32 x w f) x w f)) + (q72 (q11 34 x w f) x w f)) + (q72 (q11 36 x w f) x w f)) + (q72 (q11 38 x w f) x w f))), (0, pm_r 29)] [pm_r 40, .inl (((((0 : Int32) + (q72 (q11 32 x w f) x w f)) + (q72 (q11 34 x w f) x w f)) + (q72 (q11 36 x w f) x w f)) + (q72 (q11 38 x w f) x w f))] (pm_u x w f) := by
  exact (pm_ev_iter [17, 20] 3000 _ _ _ _).trans rfl
theorem s28a_13 {sc : pm_Sc} (d : Nat)  (x : Nat → Nat → Int32) (w : Nat → Nat → Bool) (f : Nat → Nat → Nat) : pm_ev (pm_call pm_Tf sc (d + 1)) sc 1 pm_c28 17 [(2, .inl 4), (1, .inl (((((0 : Int32) + (q72 (q11 32 x w f) x w f)) + (q72 (q11 34 x w f) x w f)) + (q72 (q11 36 x w f) x w f)) + (q72 (q11 38 x w f) x w f))), (0, pm_r 29)] [pm_r 40, .inl (((((0 : Int32) + (q72 (q11 32 x w f) x w f)) + (q72 (q11 34 x w f) x w f)) + (q72 (q11 36 x w f) x w f)) + (q72 (q11 38 x w f) x w f))] (pm_u x w f) = pm_call1 (fun v u => pm_ev (pm_call pm_Tf sc (d + 1)) sc 1 pm_c28 20 [(2, .inl 4), (1, .inl (((((0 : Int32) + (q72 (q11 32 x w f) x w f)) + (q72 (q11 34 x w f) x w f)) + (q72 (q11 36 x w f) x w f)) + (q72 (q11 38 x w f) x w f))), (0, pm_r 29)] (v.toList ++ [.inl (((((0 : Int32) + (q72 (q11 32 x w f) x w f)) + (q72 (q11 34 x w f) x w f)) + (q72 (q11 36 x w f) x w f)) + (q72 (q11 38 x w f) x w f))]) u) none ((pm_call pm_Tf sc (d + 1)) 11 [pm_r 40] (pm_u x w f)) := by
  exact (pm_ev_step _ _ _ _).trans rfl
theorem s28a_14 {sc : pm_Sc} (d : Nat)  (x : Nat → Nat → Int32) (w : Nat → Nat → Bool) (f : Nat → Nat → Nat) : pm_ev (pm_call pm_Tf sc (d + 1)) sc 1 pm_c28 20 [(2, .inl 4), (1, .inl (((((0 : Int32) + (q72 (q11 32 x w f) x w f)) + (q72 (q11 34 x w f) x w f)) + (q72 (q11 36 x w f) x w f)) + (q72 (q11 38 x w f) x w f))), (0, pm_r 29)] [pm_b (q11 40 x w f), .inl (((((0 : Int32) + (q72 (q11 32 x w f) x w f)) + (q72 (q11 34 x w f) x w f)) + (q72 (q11 36 x w f) x w f)) + (q72 (q11 38 x w f) x w f))] (pm_u x w f) = pm_call1 (fun v u => pm_ev (pm_call pm_Tf sc (d + 1)) sc 1 pm_c28 23 [(2, .inl 4), (1, .inl (((((0 : Int32) + (q72 (q11 32 x w f) x w f)) + (q72 (q11 34 x w f) x w f)) + (q72 (q11 36 x w f) x w f)) + (q72 (q11 38 x w f) x w f))), (0, pm_r 29)] (v.toList ++ [.inl (((((0 : Int32) + (q72 (q11 32 x w f) x w f)) + (q72 (q11 34 x w f) x w f)) + (q72 (q11 36 x w f) x w f)) + (q72 (q11 38 x w f) x w f))]) u) none ((pm_call pm_Tf sc (d + 1)) 72 [pm_b (q11 40 x w f)] (pm_u x w f)) := by
  exact (pm_ev_step _ _ _ _).trans rfl
theorem s28a_15 {sc : pm_Sc} (d : Nat)  (x : Nat → Nat → Int32) (w : Nat → Nat → Bool) (f : Nat → Nat → Nat) : pm_ev (pm_call pm_Tf sc (d + 1)) sc 1 pm_c28 23 [(2, .inl 4), (1, .inl (((((0 : Int32) + (q72 (q11 32 x w f) x w f)) + (q72 (q11 34 x w f) x w f)) + (q72 (q11 36 x w f) x w f)) + (q72 (q11 38 x w f) x w f))), (0, pm_r 29)] [.inl (q72 (q11 40 x w f) x w f), .inl (((((0 : Int32) + (q72 (q11 32 x w f) x w f)) + (q72 (q11 34 x w f) x w f)) + (q72 (q11 36 x w f) x w f)) + (q72 (q11 38 x w f) x w f))] (pm_u x w f) = pm_ev (pm_call pm_Tf sc (d + 1)) sc 1 pm_c28 17 [(2, .inl 5), (1, .inl ((((((0 : Int32) + (q72 (q11 32 x w f) x w f)) + (q72 (q11 34 x w f) x w f)) + (q72 (q11 36 x w f) x w f)) + (q72 (q11 38 x w f) x w f)) + (q72 (q11 40 x w f) x w f))), (0, pm_r 29)] [pm_r 42, .inl ((((((0 : Int32) + (q72 (q11 32 x w f) x w f)) + (q72 (q11 34 x w f) x w f)) + (q72 (q11 36 x w f) x w f)) + (q72 (q11 38 x w f) x w f)) + (q72 (q11 40 x w f) x w f))] (pm_u x w f) := by
  exact (pm_ev_iter [17, 20] 3000 _ _ _ _).trans rfl
theorem s28a_16 {sc : pm_Sc} (d : Nat)  (x : Nat → Nat → Int32) (w : Nat → Nat → Bool) (f : Nat → Nat → Nat) : pm_ev (pm_call pm_Tf sc (d + 1)) sc 1 pm_c28 17 [(2, .inl 5), (1, .inl ((((((0 : Int32) + (q72 (q11 32 x w f) x w f)) + (q72 (q11 34 x w f) x w f)) + (q72 (q11 36 x w f) x w f)) + (q72 (q11 38 x w f) x w f)) + (q72 (q11 40 x w f) x w f))), (0, pm_r 29)] [pm_r 42, .inl ((((((0 : Int32) + (q72 (q11 32 x w f) x w f)) + (q72 (q11 34 x w f) x w f)) + (q72 (q11 36 x w f) x w f)) + (q72 (q11 38 x w f) x w f)) + (q72 (q11 40 x w f) x w f))] (pm_u x w f) = pm_call1 (fun v u => pm_ev (pm_call pm_Tf sc (d + 1)) sc 1 pm_c28 20 [(2, .inl 5), (1, .inl ((((((0 : Int32) + (q72 (q11 32 x w f) x w f)) + (q72 (q11 34 x w f) x w f)) + (q72 (q11 36 x w f) x w f)) + (q72 (q11 38 x w f) x w f)) + (q72 (q11 40 x w f) x w f))), (0, pm_r 29)] (v.toList ++ [.inl ((((((0 : Int32) + (q72 (q11 32 x w f) x w f)) + (q72 (q11 34 x w f) x w f)) + (q72 (q11 36 x w f) x w f)) + (q72 (q11 38 x w f) x w f)) + (q72 (q11 40 x w f) x w f))]) u) none ((pm_call pm_Tf sc (d + 1)) 11 [pm_r 42] (pm_u x w f)) := by
  exact (pm_ev_step _ _ _ _).trans rfl
theorem s28a_17 {sc : pm_Sc} (d : Nat)  (x : Nat → Nat → Int32) (w : Nat → Nat → Bool) (f : Nat → Nat → Nat) : pm_ev (pm_call pm_Tf sc (d + 1)) sc 1 pm_c28 20 [(2, .inl 5), (1, .inl ((((((0 : Int32) + (q72 (q11 32 x w f) x w f)) + (q72 (q11 34 x w f) x w f)) + (q72 (q11 36 x w f) x w f)) + (q72 (q11 38 x w f) x w f)) + (q72 (q11 40 x w f) x w f))), (0, pm_r 29)] [pm_b (q11 42 x w f), .inl ((((((0 : Int32) + (q72 (q11 32 x w f) x w f)) + (q72 (q11 34 x w f) x w f)) + (q72 (q11 36 x w f) x w f)) + (q72 (q11 38 x w f) x w f)) + (q72 (q11 40 x w f) x w f))] (pm_u x w f) = pm_call1 (fun v u => pm_ev (pm_call pm_Tf sc (d + 1)) sc 1 pm_c28 23 [(2, .inl 5), (1, .inl ((((((0 : Int32) + (q72 (q11 32 x w f) x w f)) + (q72 (q11 34 x w f) x w f)) + (q72 (q11 36 x w f) x w f)) + (q72 (q11 38 x w f) x w f)) + (q72 (q11 40 x w f) x w f))), (0, pm_r 29)] (v.toList ++ [.inl ((((((0 : Int32) + (q72 (q11 32 x w f) x w f)) + (q72 (q11 34 x w f) x w f)) + (q72 (q11 36 x w f) x w f)) + (q72 (q11 38 x w f) x w f)) + (q72 (q11 40 x w f) x w f))]) u) none ((pm_call pm_Tf sc (d + 1)) 72 [pm_b (q11 42 x w f)] (pm_u x w f)) := by
  exact (pm_ev_step _ _ _ _).trans rfl
theorem s28a_18 {sc : pm_Sc} (d : Nat)  (x : Nat → Nat → Int32) (w : Nat → Nat → Bool) (f : Nat → Nat → Nat) : pm_ev (pm_call pm_Tf sc (d + 1)) sc 1 pm_c28 23 [(2, .inl 5), (1, .inl ((((((0 : Int32) + (q72 (q11 32 x w f) x w f)) + (q72 (q11 34 x w f) x w f)) + (q72 (q11 36 x w f) x w f)) + (q72 (q11 38 x w f) x w f)) + (q72 (q11 40 x w f) x w f))), (0, pm_r 29)] [.inl (q72 (q11 42 x w f) x w f), .inl ((((((0 : Int32) + (q72 (q11 32 x w f) x w f)) + (q72 (q11 34 x w f) x w f)) + (q72 (q11 36 x w f) x w f)) + (q72 (q11 38 x w f) x w f)) + (q72 (q11 40 x w f) x w f))] (pm_u x w f) = pm_ev (pm_call pm_Tf sc (d + 1)) sc 1 pm_c28 17 [(2, .inl 6), (1, .inl (((((((0 : Int32) + (q72 (q11 32 x w f) x w f)) + (q72 (q11 34 x w f) x w f)) + (q72 (q11 36 x w f) x w f)) + (q72 (q11 38 x w f) x w f)) + (q72 (q11 40 x w f) x w f)) + (q72 (q11 42 x w f) x w f))), (0, pm_r 29)] [pm_r 44, .inl (((((((0 : Int32) + (q72 (q11 32 x w f) x w f)) + (q72 (q11 34 x w f) x w f)) + (q72 (q11 36 x w f) x w f)) + (q72 (q11 38 x w f) x w f)) + (q72 (q11 40 x w f) x w f)) + (q72 (q11 42 x w f) x w f))] (pm_u x w f) := by
  exact (pm_ev_iter [17, 20] 3000 _ _ _ _).trans rfl
theorem s28a_19 {sc : pm_Sc} (d : Nat)  (x : Nat → Nat → Int32) (w : Nat → Nat → Bool) (f : Nat → Nat → Nat) : pm_ev (pm_call pm_Tf sc (d + 1)) sc 1 pm_c28 17 [(2, .inl 6), (1, .inl (((((((0 : Int32) + (q72 (q11 32 x w f) x w f)) + (q72 (q11 34 x w f) x w f)) + (q72 (q11 36 x w f) x w f)) + (q72 (q11 38 x w f) x w f)) + (q72 (q11 40 x w f) x w f)) + (q72 (q11 42 x w f) x w f))), (0, pm_r 29)] [pm_r 44, .inl (((((((0 : Int32) + (q72 (q11 32 x w f) x w f)) + (q72 (q11 34 x w f) x w f)) + (q72 (q11 36 x w f) x w f)) + (q72 (q11 38 x w f) x w f)) + (q72 (q11 40 x w f) x w f)) + (q72 (q11 42 x w f) x w f))] (pm_u x w f) = pm_call1 (fun v u => pm_ev (pm_call pm_Tf sc (d + 1)) sc 1 pm_c28 20 [(2, .inl 6), (1, .inl (((((((0 : Int32) + (q72 (q11 32 x w f) x w f)) + (q72 (q11 34 x w f) x w f)) + (q72 (q11 36 x w f) x w f)) + (q72 (q11 38 x w f) x w f)) + (q72 (q11 40 x w f) x w f)) + (q72 (q11 42 x w f) x w f))), (0, pm_r 29)] (v.toList ++ [.inl (((((((0 : Int32) + (q72 (q11 32 x w f) x w f)) + (q72 (q11 34 x w f) x w f)) + (q72 (q11 36 x w f) x w f)) + (q72 (q11 38 x w f) x w f)) + (q72 (q11 40 x w f) x w f)) + (q72 (q11 42 x w f) x w f))]) u) none ((pm_call pm_Tf sc (d + 1)) 11 [pm_r 44] (pm_u x w f)) := by
  exact (pm_ev_step _ _ _ _).trans rfl
theorem s28a_20 {sc : pm_Sc} (d : Nat)  (x : Nat → Nat → Int32) (w : Nat → Nat → Bool) (f : Nat → Nat → Nat) : pm_ev (pm_call pm_Tf sc (d + 1)) sc 1 pm_c28 20 [(2, .inl 6), (1, .inl (((((((0 : Int32) + (q72 (q11 32 x w f) x w f)) + (q72 (q11 34 x w f) x w f)) + (q72 (q11 36 x w f) x w f)) + (q72 (q11 38 x w f) x w f)) + (q72 (q11 40 x w f) x w f)) + (q72 (q11 42 x w f) x w f))), (0, pm_r 29)] [pm_b (q11 44 x w f), .inl (((((((0 : Int32) + (q72 (q11 32 x w f) x w f)) + (q72 (q11 34 x w f) x w f)) + (q72 (q11 36 x w f) x w f)) + (q72 (q11 38 x w f) x w f)) + (q72 (q11 40 x w f) x w f)) + (q72 (q11 42 x w f) x w f))] (pm_u x w f) = pm_call1 (fun v u => pm_ev (pm_call pm_Tf sc (d + 1)) sc 1 pm_c28 23 [(2, .inl 6), (1, .inl (((((((0 : Int32) + (q72 (q11 32 x w f) x w f)) + (q72 (q11 34 x w f) x w f)) + (q72 (q11 36 x w f) x w f)) + (q72 (q11 38 x w f) x w f)) + (q72 (q11 40 x w f) x w f)) + (q72 (q11 42 x w f) x w f))), (0, pm_r 29)] (v.toList ++ [.inl (((((((0 : Int32) + (q72 (q11 32 x w f) x w f)) + (q72 (q11 34 x w f) x w f)) + (q72 (q11 36 x w f) x w f)) + (q72 (q11 38 x w f) x w f)) + (q72 (q11 40 x w f) x w f)) + (q72 (q11 42 x w f) x w f))]) u) none ((pm_call pm_Tf sc (d + 1)) 72 [pm_b (q11 44 x w f)] (pm_u x w f)) := by
  exact (pm_ev_step _ _ _ _).trans rfl
theorem s28a_21 {sc : pm_Sc} (d : Nat)  (x : Nat → Nat → Int32) (w : Nat → Nat → Bool) (f : Nat → Nat → Nat) : pm_ev (pm_call pm_Tf sc (d + 1)) sc 1 pm_c28 23 [(2, .inl 6), (1, .inl (((((((0 : Int32) + (q72 (q11 32 x w f) x w f)) + (q72 (q11 34 x w f) x w f)) + (q72 (q11 36 x w f) x w f)) + (q72 (q11 38 x w f) x w f)) + (q72 (q11 40 x w f) x w f)) + (q72 (q11 42 x w f) x w f))), (0, pm_r 29)] [.inl (q72 (q11 44 x w f) x w f), .inl (((((((0 : Int32) + (q72 (q11 32 x w f) x w f)) + (q72 (q11 34 x w f) x w f)) + (q72 (q11 36 x w f) x w f)) + (q72 (q11 38 x w f) x w f)) + (q72 (q11 40 x w f) x w f)) + (q72 (q11 42 x w f) x w f))] (pm_u x w f) = pm_ev (pm_call pm_Tf sc (d + 1)) sc 1 pm_c28 17 [(2, .inl 7), (1, .inl ((((((((0 : Int32) + (q72 (q11 32 x w f) x w f)) + (q72 (q11 34 x w f) x w f)) + (q72 (q11 36 x w f) x w f)) + (q72 (q11 38 x w f) x w f)) + (q72 (q11 40 x w f) x w f)) + (q72 (q11 42 x w f) x w f)) + (q72 (q11 44 x w f) x w f))), (0, pm_r 29)] [pm_r 46, .inl ((((((((0 : Int32) + (q72 (q11 32 x w f) x w f)) + (q72 (q11 34 x w f) x w f)) + (q72 (q11 36 x w f) x w f)) + (q72 (q11 38 x w f) x w f)) + (q72 (q11 40 x w f) x w f)) + (q72 (q11 42 x w f) x w f)) + (q72 (q11 44 x w f) x w f))] (pm_u x w f) := by
  exact (pm_ev_iter [17, 20] 3000 _ _ _ _).trans rfl
theorem s28a_22 {sc : pm_Sc} (d : Nat)  (x : Nat → Nat → Int32) (w : Nat → Nat → Bool) (f : Nat → Nat → Nat) : pm_ev (pm_call pm_Tf sc (d + 1)) sc 1 pm_c28 17 [(2, .inl 7), (1, .inl ((((((((0 : Int32) + (q72 (q11 32 x w f) x w f)) + (q72 (q11 34 x w f) x w f)) + (q72 (q11 36 x w f) x w f)) + (q72 (q11 38 x w f) x w f)) + (q72 (q11 40 x w f) x w f)) + (q72 (q11 42 x w f) x w f)) + (q72 (q11 44 x w f) x w f))), (0, pm_r 29)] [pm_r 46, .inl ((((((((0 : Int32) + (q72 (q11 32 x w f) x w f)) + (q72 (q11 34 x w f) x w f)) + (q72 (q11 36 x w f) x w f)) + (q72 (q11 38 x w f) x w f)) + (q72 (q11 40 x w f) x w f)) + (q72 (q11 42 x w f) x w f)) + (q72 (q11 44 x w f) x w f))] (pm_u x w f) = pm_call1 (fun v u => pm_ev (pm_call pm_Tf sc (d + 1)) sc 1 pm_c28 20 [(2, .inl 7), (1, .inl ((((((((0 : Int32) + (q72 (q11 32 x w f) x w f)) + (q72 (q11 34 x w f) x w f)) + (q72 (q11 36 x w f) x w f)) + (q72 (q11 38 x w f) x w f)) + (q72 (q11 40 x w f) x w f)) + (q72 (q11 42 x w f) x w f)) + (q72 (q11 44 x w f) x w f))), (0, pm_r 29)] (v.toList ++ [.inl ((((((((0 : Int32) + (q72 (q11 32 x w f) x w f)) + (q72 (q11 34 x w f) x w f)) + (q72 (q11 36 x w f) x w f)) + (q72 (q11 38 x w f) x w f)) + (q72 (q11 40 x w f) x w f)) + (q72 (q11 42 x w f) x w f)) + (q72 (q11 44 x w f) x w f))]) u) none ((pm_call pm_Tf sc (d + 1)) 11 [pm_r 46] (pm_u x w f)) := by
  exact (pm_ev_step _ _ _ _).trans rfl
theorem s28a_23 {sc : pm_Sc} (d : Nat)  (x : Nat → Nat → Int32) (w : Nat → Nat → Bool) (f : Nat → Nat → Nat) : pm_ev (pm_call pm_Tf sc (d + 1)) sc 1 pm_c28 20 [(2, .inl 7), (1, .inl ((((((((0 : Int32) + (q72 (q11 32 x w f) x w f)) + (q72 (q11 34 x w f) x w f)) + (q72 (q11 36 x w f) x w f)) + (q72 (q11 38 x w f) x w f)) + (q72 (q11 40 x w f) x w f)) + (q72 (q11 42 x w f) x w f)) + (q72 (q11 44 x w f) x w f))), (0, pm_r 29)] [pm_b (q11 46 x w f), .inl ((((((((0 : Int32) + (q72 (q11 32 x w f) x w f)) + (q72 (q11 34 x w f) x w f)) + (q72 (q11 36 x w f) x w f)) + (q72 (q11 38 x w f) x w f)) + (q72 (q11 40 x w f) x w f)) + (q72 (q11 42 x w f) x w f)) + (q72 (q11 44 x w f) x w f))] (pm_u x w f) = pm_call1 (fun v u => pm_ev (pm_call pm_Tf sc (d + 1)) sc 1 pm_c28 23 [(2, .inl 7), (1, .inl ((((((((0 : Int32) + (q72 (q11 32 x w f) x w f)) + (q72 (q11 34 x w f) x w f)) + (q72 (q11 36 x w f) x w f)) + (q72 (q11 38 x w f) x w f)) + (q72 (q11 40 x w f) x w f)) + (q72 (q11 42 x w f) x w f)) + (q72 (q11 44 x w f) x w f))), (0, pm_r 29)] (v.toList ++ [.inl ((((((((0 : Int32) + (q72 (q11 32 x w f) x w f)) + (q72 (q11 34 x w f) x w f)) + (q72 (q11 36 x w f) x w f)) + (q72 (q11 38 x w f) x w f)) + (q72 (q11 40 x w f) x w f)) + (q72 (q11 42 x w f) x w f)) + (q72 (q11 44 x w f) x w f))]) u) none ((pm_call pm_Tf sc (d + 1)) 72 [pm_b (q11 46 x w f)] (pm_u x w f)) := by
  exact (pm_ev_step _ _ _ _).trans rfl
theorem s28a_24 {sc : pm_Sc} (d : Nat)  (x : Nat → Nat → Int32) (w : Nat → Nat → Bool) (f : Nat → Nat → Nat) : pm_ev (pm_call pm_Tf sc (d + 1)) sc 1 pm_c28 23 [(2, .inl 7), (1, .inl ((((((((0 : Int32) + (q72 (q11 32 x w f) x w f)) + (q72 (q11 34 x w f) x w f)) + (q72 (q11 36 x w f) x w f)) + (q72 (q11 38 x w f) x w f)) + (q72 (q11 40 x w f) x w f)) + (q72 (q11 42 x w f) x w f)) + (q72 (q11 44 x w f) x w f))), (0, pm_r 29)] [.inl (q72 (q11 46 x w f) x w f), .inl ((((((((0 : Int32) + (q72 (q11 32 x w f) x w f)) + (q72 (q11 34 x w f) x w f)) + (q72 (q11 36 x w f) x w f)) + (q72 (q11 38 x w f) x w f)) + (q72 (q11 40 x w f) x w f)) + (q72 (q11 42 x w f) x w f)) + (q72 (q11 44 x w f) x w f))] (pm_u x w f) = some (some (.inl (((((((((0 : Int32) + (q72 (q11 32 x w f) x w f)) + (q72 (q11 34 x w f) x w f)) + (q72 (q11 36 x w f) x w f)) + (q72 (q11 38 x w f) x w f)) + (q72 (q11 40 x w f) x w f)) + (q72 (q11 42 x w f) x w f)) + (q72 (q11 44 x w f) x w f)) + (q72 (q11 46 x w f) x w f))), pm_u x w f) := by
  exact (pm_ev_iter [17, 20] 3000 _ _ _ _).trans rfl
def q28a (x : Nat → Nat → Int32) (w : Nat → Nat → Bool) (f : Nat → Nat → Nat) : Int32 := ((((((((0 : Int32) + (q72 (q11 32 x w f) x w f)) + (q72 (q11 34 x w f) x w f)) + (q72 (q11 36 x w f) x w f)) + (q72 (q11 38 x w f) x w f)) + (q72 (q11 40 x w f) x w f)) + (q72 (q11 42 x w f) x w f)) + (q72 (q11 44 x w f) x w f)) + (q72 (q11 46 x w f) x w f)
theorem e28a {sc : pm_Sc} (d : Nat)  (x : Nat → Nat → Int32) (w : Nat → Nat → Bool) (f : Nat → Nat → Nat) : pm_ev (pm_call pm_Tf sc (d + 1)) sc 1 pm_c28 0 [(0, pm_r 29)] [] (pm_u x w f) = some (pm_g1 x w f (q28a x w f)) := (s28a_0 d  x w f).trans (((s28a_1 d  x w f).trans ((pm_call1_of (z11 (d + 0) 32 x w f (by decide))).trans (((s28a_2 d  x w f).trans ((pm_call1_of (z72 (d + 1) (q11 32 x w f) x w f)).trans ((s28a_3 d  x w f).trans (((s28a_4 d  x w f).trans ((pm_call1_of (z11 (d + 0) 34 x w f (by decide))).trans (((s28a_5 d  x w f).trans ((pm_call1_of (z72 (d + 1) (q11 34 x w f) x w f)).trans ((s28a_6 d  x w f).trans (((s28a_7 d  x w f).trans ((pm_call1_of (z11 (d + 0) 36 x w f (by decide))).trans (((s28a_8 d  x w f).trans ((pm_call1_of (z72 (d + 1) (q11 36 x w f) x w f)).trans ((s28a_9 d  x w f).trans (((s28a_10 d  x w f).trans ((pm_call1_of (z11 (d + 0) 38 x w f (by decide))).trans (((s28a_11 d  x w f).trans ((pm_call1_of (z72 (d + 1) (q11 38 x w f) x w f)).trans ((s28a_12 d  x w f).trans (((s28a_13 d  x w f).trans ((pm_call1_of (z11 (d + 0) 40 x w f (by decide))).trans (((s28a_14 d  x w f).trans ((pm_call1_of (z72 (d + 1) (q11 40 x w f) x w f)).trans ((s28a_15 d  x w f).trans (((s28a_16 d  x w f).trans ((pm_call1_of (z11 (d + 0) 42 x w f (by decide))).trans (((s28a_17 d  x w f).trans ((pm_call1_of (z72 (d + 1) (q11 42 x w f) x w f)).trans ((s28a_18 d  x w f).trans (((s28a_19 d  x w f).trans ((pm_call1_of (z11 (d + 0) 44 x w f (by decide))).trans (((s28a_20 d  x w f).trans ((pm_call1_of (z72 (d + 1) (q11 44 x w f) x w f)).trans ((s28a_21 d  x w f).trans (((s28a_22 d  x w f).trans ((pm_call1_of (z11 (d + 0) 46 x w f (by decide))).trans (((s28a_23 d  x w f).trans ((pm_call1_of (z72 (d + 1) (q11 46 x w f) x w f)).trans ((s28a_24 d  x w f).trans (rfl)))))))))))))))))))))))))))))))))))))))))))))))))))))))))
theorem z28a {sc : pm_Sc} (d : Nat) (x : Nat → Nat → Int32) (w : Nat → Nat → Bool) (f : Nat → Nat → Nat) : pm_call pm_Tf sc (d + 2) 28 [pm_r 29] (pm_u x w f) = some (pm_g1 x w f (q28a x w f)) := e28a d x w f
theorem s29a_0 {sc : pm_Sc} (d : Nat)  (x : Nat → Nat → Int32) (w : Nat → Nat → Bool) (f : Nat → Nat → Nat) : pm_ev (pm_call pm_Tf sc (d + 0)) sc 1 pm_c29 0 [(0, pm_r 29)] [] (pm_u x w f) = pm_ev (pm_call pm_Tf sc (d + 0)) sc 1 pm_c29 20 [(2, .inl 0), (1, .inl 0), (0, pm_r 29)] [pm_b (w 32 6), .inl 0] (pm_u x w f) := by
  exact (pm_ev_iter [20] 3000 _ _ _ _).trans rfl
theorem s29a_1 {sc : pm_Sc} (d : Nat)  (x : Nat → Nat → Int32) (w : Nat → Nat → Bool) (f : Nat → Nat → Nat) : pm_ev (pm_call pm_Tf sc (d + 0)) sc 1 pm_c29 20 [(2, .inl 0), (1, .inl 0), (0, pm_r 29)] [pm_b (w 32 6), .inl 0] (pm_u x w f) = pm_call1 (fun v u => pm_ev (pm_call pm_Tf sc (d + 0)) sc 1 pm_c29 23 [(2, .inl 0), (1, .inl 0), (0, pm_r 29)] (v.toList ++ [.inl 0]) u) none ((pm_call pm_Tf sc (d + 0)) 72 [pm_b (w 32 6)] (pm_u x w f)) := by
  exact (pm_ev_step _ _ _ _).trans rfl
theorem s29a_2 {sc : pm_Sc} (d : Nat)  (x : Nat → Nat → Int32) (w : Nat → Nat → Bool) (f : Nat → Nat → Nat) : pm_ev (pm_call pm_Tf sc (d + 0)) sc 1 pm_c29 23 [(2, .inl 0), (1, .inl 0), (0, pm_r 29)] [.inl (q72 (w 32 6) x w f), .inl 0] (pm_u x w f) = pm_ev (pm_call pm_Tf sc (d + 0)) sc 1 pm_c29 20 [(2, .inl 1), (1, .inl ((0 : Int32) ||| ((q72 (w 32 6) x w f) <<< ((0 : Int32) &&& 31)))), (0, pm_r 29)] [pm_b (w 34 6), .inl ((0 : Int32) ||| ((q72 (w 32 6) x w f) <<< ((0 : Int32) &&& 31)))] (pm_u x w f) := by
  exact (pm_ev_iter [20] 3000 _ _ _ _).trans rfl
theorem s29a_3 {sc : pm_Sc} (d : Nat)  (x : Nat → Nat → Int32) (w : Nat → Nat → Bool) (f : Nat → Nat → Nat) : pm_ev (pm_call pm_Tf sc (d + 0)) sc 1 pm_c29 20 [(2, .inl 1), (1, .inl ((0 : Int32) ||| ((q72 (w 32 6) x w f) <<< ((0 : Int32) &&& 31)))), (0, pm_r 29)] [pm_b (w 34 6), .inl ((0 : Int32) ||| ((q72 (w 32 6) x w f) <<< ((0 : Int32) &&& 31)))] (pm_u x w f) = pm_call1 (fun v u => pm_ev (pm_call pm_Tf sc (d + 0)) sc 1 pm_c29 23 [(2, .inl 1), (1, .inl ((0 : Int32) ||| ((q72 (w 32 6) x w f) <<< ((0 : Int32) &&& 31)))), (0, pm_r 29)] (v.toList ++ [.inl ((0 : Int32) ||| ((q72 (w 32 6) x w f) <<< ((0 : Int32) &&& 31)))]) u) none ((pm_call pm_Tf sc (d + 0)) 72 [pm_b (w 34 6)] (pm_u x w f)) := by
  exact (pm_ev_step _ _ _ _).trans rfl
theorem s29a_4 {sc : pm_Sc} (d : Nat)  (x : Nat → Nat → Int32) (w : Nat → Nat → Bool) (f : Nat → Nat → Nat) : pm_ev (pm_call pm_Tf sc (d + 0)) sc 1 pm_c29 23 [(2, .inl 1), (1, .inl ((0 : Int32) ||| ((q72 (w 32 6) x w f) <<< ((0 : Int32) &&& 31)))), (0, pm_r 29)] [.inl (q72 (w 34 6) x w f), .inl ((0 : Int32) ||| ((q72 (w 32 6) x w f) <<< ((0 : Int32) &&& 31)))] (pm_u x w f) = pm_ev (pm_call pm_Tf sc (d + 0)) sc 1 pm_c29 20 [(2, .inl 2), (1, .inl (((0 : Int32) ||| ((q72 (w 32 6) x w f) <<< ((0 : Int32) &&& 31))) ||| ((q72 (w 34 6) x w f) <<< ((1 : Int32) &&& 31)))), (0, pm_r 29)] [pm_b (w 36 6), .inl (((0 : Int32) ||| ((q72 (w 32 6) x w f) <<< ((0 : Int32) &&& 31))) ||| ((q72 (w 34 6) x w f) <<< ((1 : Int32) &&& 31)))] (pm_u x w f) := by
  exact (pm_ev_iter [20] 3000 _ _ _ _).trans rfl
theorem s29a_5 {sc : pm_Sc} (d : Nat)  (x : Nat → Nat → Int32) (w : Nat → Nat → Bool) (f : Nat → Nat → Nat) : pm_ev (pm_call pm_Tf sc (d + 0)) sc 1 pm_c29 20 [(2, .inl 2), (1, .inl (((0 : Int32) ||| ((q72 (w 32 6) x w f) <<< ((0 : Int32) &&& 31))) ||| ((q72 (w 34 6) x w f) <<< ((1 : Int32) &&& 31)))), (0, pm_r 29)] [pm_b (w 36 6), .inl (((0 : Int32) ||| ((q72 (w 32 6) x w f) <<< ((0 : Int32) &&& 31))) ||| ((q72 (w 34 6) x w f) <<< ((1 : Int32) &&& 31)))] (pm_u x w f) = pm_call1 (fun v u => pm_ev (pm_call pm_Tf sc (d + 0)) sc 1 pm_c29 23 [(2, .inl 2), (1, .inl (((0 : Int32) ||| ((q72 (w 32 6) x w f) <<< ((0 : Int32) &&& 31))) ||| ((q72 (w 34 6) x w f) <<< ((1 : Int32) &&& 31)))), (0, pm_r 29)] (v.toList ++ [.inl (((0 : Int32) ||| ((q72 (w 32 6) x w f) <<< ((0 : Int32) &&& 31))) ||| ((q72 (w 34 6) x w f) <<< ((1 : Int32) &&& 31)))]) u) none ((pm_call pm_Tf sc (d + 0)) 72 [pm_b (w 36 6)] (pm_u x w f)) := by
  exact (pm_ev_step _ _ _ _).trans rfl
theorem s29a_6 {sc : pm_Sc} (d : Nat)  (x : Nat → Nat → Int32) (w : Nat → Nat → Bool) (f : Nat → Nat → Nat) : pm_ev (pm_call pm_Tf sc (d + 0)) sc 1 pm_c29 23 [(2, .inl 2), (1, .inl (((0 : Int32) ||| ((q72 (w 32 6) x w f) <<< ((0 : Int32) &&& 31))) ||| ((q72 (w 34 6) x w f) <<< ((1 : Int32) &&& 31)))), (0, pm_r 29)] [.inl (q72 (w 36 6) x w f), .inl (((0 : Int32) ||| ((q72 (w 32 6) x w f) <<< ((0 : Int32) &&& 31))) ||| ((q72 (w 34 6) x w f) <<< ((1 : Int32) &&& 31)))] (pm_u x w f) = pm_ev (pm_call pm_Tf sc (d + 0)) sc 1 pm_c29 20 [(2, .inl 3), (1, .inl ((((0 : Int32) ||| ((q72 (w 32 6) x w f) <<< ((0 : Int32) &&& 31))) ||| ((q72 (w 34 6) x w f) <<< ((1 : Int32) &&& 31))) ||| ((q72 (w 36 6) x w f) <<< ((2 : Int32) &&& 31)))), (0, pm_r 29)] [pm_b (w 38 6), .inl ((((0 : Int32) ||| ((q72 (w 32 6) x w f) <<< ((0 : Int32) &&& 31))) ||| ((q72 (w 34 6) x w f) <<< ((1 : Int32) &&& 31))) ||| ((q72 (w 36 6) x w f) <<< ((2 : Int32) &&& 31)))] (pm_u x w f) := by
  exact (pm_ev_iter [20] 3000 _ _ _ _).trans rfl
theorem s29a_7 {sc : pm_Sc} (d : Nat)  (x : Nat → Nat → Int32) (w : Nat → Nat → Bool) (f : Nat → Nat → Nat) : pm_ev (pm_call pm_Tf sc (d + 0)) sc 1 pm_c29 20 [(2, .inl 3), (1, .inl ((((0 : Int32) ||| ((q72 (w 32 6) x w f) <<< ((0 : Int32) &&& 31))) ||| ((q72 (w 34 6) x w f) <<< ((1 : Int32) &&& 31))) ||| ((q72 (w 36 6) x w f) <<< ((2 : Int32) &&& 31)))), (0, pm_r 29)] [pm_b (w 38 6), .inl ((((0 : Int32) ||| ((q72 (w 32 6) x w f) <<< ((0 : Int32) &&& 31))) ||| ((q72 (w 34 6) x w f) <<< ((1 : Int32) &&& 31))) ||| ((q72 (w 36 6) x w f) <<< ((2 : Int32) &&& 31)))] (pm_u x w f) = pm_call1 (fun v u => pm_ev (pm_call pm_Tf sc (d + 0)) sc 1 pm_c29 23 [(2, .inl 3), (1, .inl ((((0 : Int32) ||| ((q72 (w 32 6) x w f) <<< ((0 : Int32) &&& 31))) ||| ((q72 (w 34 6) x w f) <<< ((1 : Int32) &&& 31))) ||| ((q72 (w 36 6) x w f) <<< ((2 : Int32) &&& 31)))), (0, pm_r 29)] (v.toList ++ [.inl ((((0 : Int32) ||| ((q72 (w 32 6) x w f) <<< ((0 : Int32) &&& 31))) ||| ((q72 (w 34 6) x w f) <<< ((1 : Int32) &&& 31))) ||| ((q72 (w 36 6) x w f) <<< ((2 : Int32) &&& 31)))]) u) none ((pm_call pm_Tf sc (d + 0)) 72 [pm_b (w 38 6)] (pm_u x w f)) := by
  exact (pm_ev_step _ _ _ _).trans rfl
theorem s29a_8 {sc : pm_Sc} (d : Nat)  (x : Nat → Nat → Int32) (w : Nat → Nat → Bool) (f : Nat → Nat → Nat) : pm_ev (pm_call pm_Tf sc (d + 0)) sc 1 pm_c29 23 [(2, .inl 3), (1, .inl ((((0 : Int32) ||| ((q72 (w 32 6) x w f) <<< ((0 : Int32) &&& 31))) ||| ((q72 (w 34 6) x w f) <<< ((1 : Int32) &&& 31))) ||| ((q72 (w 36 6) x w f) <<< ((2 : Int32) &&& 31)))), (0, pm_r 29)] [.inl (q72 (w 38 6) x w f), .inl ((((0 : Int32) ||| ((q72 (w 32 6) x w f) <<< ((0 : Int32) &&& 31))) ||| ((q72 (w 34 6) x w f) <<< ((1 : Int32) &&& 31))) ||| ((q72 (w 36 6) x w f) <<< ((2 : Int32) &&& 31)))] (pm_u x w f) = pm_ev (pm_call pm_Tf sc (d + 0)) sc 1 pm_c29 20 [(2, .inl 4), (1, .inl (((((0 : Int32) ||| ((q72 (w 32 6) x w f) <<< ((0 : Int32) &&& 31))) ||| ((q72 (w 34 6) x w f) <<< ((1 : Int32) &&& 31))) ||| ((q72 (w 36 6) x w f) <<< ((2 : Int32) &&& 31))) ||| ((q72 (w 38 6) x w f) <<< ((3 : Int32) &&& 31)))), (0, pm_r 29)] [pm_b (w 40 6), .inl (((((0 : Int32) ||| ((q72 (w 32 6) x w f) <<< ((0 : Int32) &&& 31))) ||| ((q72 (w 34 6) x w f) <<< ((1 : Int32) &&& 31))) ||| ((q72 (w 36 6) x w f) <<< ((2 : Int32) &&& 31))) ||| ((q72 (w 38 6) x w f) <<< ((3 : Int32) &&& 31)))] (pm_u x w f) := by
  exact (pm_ev_iter [20] 3000 _ _ _ _).trans rfl
theorem s29a_9 {sc : pm_Sc} (d : Nat)  (x : Nat → Nat → Int32) (w : Nat → Nat → Bool) (f : Nat → Nat → Nat) : pm_ev (pm_call pm_Tf sc (d + 0)) sc 1 pm_c29 20 [(2, .inl 4), (1, .inl (((((0 : Int32) ||| ((q72 (w 32 6) x w f) <<< ((0 : Int32) &&& 31))) ||| ((q72 (w 34 6) x w f) <<< ((1 : Int32) &&& 31))) ||| ((q72 (w 36 6) x w f) <<< ((2 : Int32) &&& 31))) ||| ((q72 (w 38 6) x w f) <<< ((3 : Int32) &&& 31)))), (0, pm_r 29)] [pm_b (w 40 6), .inl (((((0 : Int32) ||| ((q72 (w 32 6) x w f) <<< ((0 : Int32) &&& 31))) ||| ((q72 (w 34 6) x w f) <<< ((1 : Int32) &&& 31))) ||| ((q72 (w 36 6) x w f) <<< ((2 : Int32) &&& 31))) ||| ((q72 (w 38 6) x w f) <<< ((3 : Int32) &&& 31)))] (pm_u x w f) = pm_call1 (fun v u => pm_ev (pm_call pm_Tf sc (d + 0)) sc 1 pm_c29 23 [(2, .inl 4), (1, .inl (((((0 : Int32) ||| ((q72 (w 32 6) x w f) <<< ((0 : Int32) &&& 31))) ||| ((q72 (w 34 6) x w f) <<< ((1 : Int32) &&& 31))) ||| ((q72 (w 36 6) x w f) <<< ((2 : Int32) &&& 31))) ||| ((q72 (w 38 6) x w f) <<< ((3 : Int32) &&& 31)))), (0, pm_r 29)] (v.toList ++ [.inl (((((0 : Int32) ||| ((q72 (w 32 6) x w f) <<< ((0 : Int32) &&& 31))) ||| ((q72 (w 34 6) x w f) <<< ((1 : Int32) &&& 31))) ||| ((q72 (w 36 6) x w f) <<< ((2 : Int32) &&& 31))) ||| ((q72 (w 38 6) x w f) <<< ((3 : Int32) &&& 31)))]) u) none ((pm_call pm_Tf sc (d + 0)) 72 [pm_b (w 40 6)] (pm_u x w f)) := by
  exact (pm_ev_step _ _ _ _).trans rfl
theorem s29a_10 {sc : pm_Sc} (d : Nat)  (x : Nat → Nat → Int32) (w : Nat → Nat → Bool) (f : Nat → Nat → Nat) : pm_ev (pm_call pm_Tf sc (d + 0)) sc 1 pm_c29 23 [(2, .inl 4), (1, .inl (((((0 : Int32) ||| ((q72 (w 32 6) x w f) <<< ((0 : Int32) &&& 31))) ||| ((q72 (w 34 6) x w f) <<< ((1 : Int32) &&& 31))) ||| ((q72 (w 36 6) x w f) <<< ((2 : Int32) &&& 31))) ||| ((q72 (w 38 6) x w f) <<< ((3 : Int32) &&& 31)))), (0, pm_r 29)] [.inl (q72 (w 40 6) x w f), .inl (((((0 : Int32) ||| ((q72 (w 32 6) x w f) <<< ((0 : Int32) &&& 31))) ||| ((q72 (w 34 6) x w f) <<< ((1 : Int32) &&& 31))) ||| ((q72 (w 36 6) x w f) <<< ((2 : Int32) &&& 31))) ||| ((q72 (w 38 6) x w f) <<< ((3 : Int32) &&& 31)))] (pm_u x w f) = pm_ev (pm_call pm_Tf sc (d + 0)) sc 1 pm_c29 20 [(2, .inl 5), (1, .inl ((((((0 : Int32) ||| ((q72 (w 32 6) x w f) <<< ((0 : Int32) &&& 31))) ||| ((q72 (w 34 6) x w f) <<< ((1 : Int32) &&& 31))) ||| ((q72 (w 36 6) x w f) <<< ((2 : Int32) &&& 31))) ||| ((q72 (w 38 6) x w f) <<< ((3 : Int32) &&& 31))) ||| ((q72 (w 40 6) x w f) <<< ((4 : Int32) &&& 31)))), (0, pm_r 29)] [pm_b (w 42 6), .inl ((((((0 : Int32) ||| ((q72 (w 32 6) x w f) <<< ((0 : Int32) &&& 31))) ||| ((q72 (w 34 6) x w f) <<< ((1 : Int32) &&& 31))) ||| ((q72 (w 36 6) x w f) <<< ((2 : Int32) &&& 31))) ||| ((q72 (w 38 6) x w f) <<< ((3 : Int32) &&& 31))) ||| ((q72 (w 40 6) x w f) <<< ((4 : Int32) &&& 31)))] (pm_u x w f) := by
  exact (pm_ev_iter [20] 3000 _ _ _ _).trans rfl
theorem s29a_11 {sc : pm_Sc} (d : Nat)  (x : Nat → Nat → Int32) (w : Nat → Nat → Bool) (f : Nat → Nat → Nat) : pm_ev (pm_call pm_Tf sc (d + 0)) sc 1 pm_c29 20 [(2, .inl 5), (1, .inl ((((((0 : Int32) ||| ((q72 (w 32 6) x w f) <<< ((0 : Int32) &&& 31))) ||| ((q72 (w 34 6) x w f) <<< ((1 : Int32) &&& 31))) ||| ((q72 (w 36 6) x w f) <<< ((2 : Int32) &&& 31))) ||| ((q72 (w 38 6) x w f) <<< ((3 : Int32) &&& 31))) ||| ((q72 (w 40 6) x w f) <<< ((4 : Int32) &&& 31)))), (0, pm_r 29)] [pm_b (w 42 6), .inl ((((((0 : Int32) ||| ((q72 (w 32 6) x w f) <<< ((0 : Int32) &&& 31))) ||| ((q72 (w 34 6) x w f) <<< ((1 : Int32) &&& 31))) ||| ((q72 (w 36 6) x w f) <<< ((2 : Int32) &&& 31))) ||| ((q72 (w 38 6) x w f) <<< ((3 : Int32) &&& 31))) ||| ((q72 (w 40 6) x w f) <<< ((4 : Int32) &&& 31)))] (pm_u x w f) = pm_call1 (fun v u => pm_ev (pm_call pm_Tf sc (d + 0)) sc 1 pm_c29 23 [(2, .inl 5), (1, .inl ((((((0 : Int32) ||| ((q72 (w 32 6) x w f) <<< ((0 : Int32) &&& 31))) ||| ((q72 (w 34 6) x w f) <<< ((1 : Int32) &&& 31))) ||| ((q72 (w 36 6) x w f) <<< ((2 : Int32) &&& 31))) ||| ((q72 (w 38 6) x w f) <<< ((3 : Int32) &&& 31))) ||| ((q72 (w 40 6) x w f) <<< ((4 : Int32) &&& 31)))), (0, pm_r 29)] (v.toList ++ [.inl ((((((0 : Int32) ||| ((q72 (w 32 6) x w f) <<< ((0 : Int32) &&& 31))) ||| ((q72 (w 34 6) x w f) <<< ((1 : Int32) &&& 31))) ||| ((q72 (w 36 6) x w f) <<< ((2 : Int32) &&& 31))) ||| ((q72 (w 38 6) x w f) <<< ((3 : Int32) &&& 31))) ||| ((q72 (w 40 6) x w f) <<< ((4 : Int32) &&& 31)))]) u) none ((pm_call pm_Tf sc (d + 0)) 72 [pm_b (w 42 6)] (pm_u x w f)) := by
  exact (pm_ev_step _ _ _ _).trans rfl
theorem s29a_12 {sc : pm_Sc} (d : Nat)  (x : Nat → Nat → Int32) (w : Nat → Nat → Bool) (f : Nat → Nat → Nat) : pm_ev (pm_call pm_Tf sc (d + 0)) sc 1 pm_c29 23 [(2, .inl 5), (1, .inl ((((((0 : Int32) ||| ((q72 (w 32 6) x w f) <<< ((0 : Int32) &&& 31))) ||| ((q72 (w 34 6) x w f) <<< ((1 : Int32) &&& 31))) ||| ((q72 (w 36 6) x w f) <<< ((2 : Int32) &&& 31))) ||| ((q72 (w 38 6) x w f) <<< ((3 : Int32) &&& 31))) ||| ((q72 (w 40 6) x w f) <<< ((4 : Int32) &&& 31)))), (0, pm_r 29)] [.inl (q72 (w 42 6) x w f), .inl ((((((0 : Int32) ||| ((q72 (w 32 6) x w f) <<< ((0 : Int32) &&& 31))) ||| ((q72 (w 34 6) x w f) <<< ((1 : Int32) &&& 31))) ||| ((q72 (w 36 6) x w f) <<< ((2 : Int32) &&& 31))) ||| ((q72 (w 38 6) x w f) <<< ((3 : Int32) &&& 31))) ||| ((q72 (w 40 6) x w f) <<< ((4 : Int32) &&& 31)))] (pm_u x w f) = pm_ev (pm_call pm_Tf sc (d + 0)) sc 1 pm_c29 20 [(2, .inl 6), (1, .inl (((((((0 : Int32) ||| ((q72 (w 32 6) x w f) <<< ((0 : Int32) &&& 31))) ||| ((q72 (w 34 6) x w f) <<< ((1 : Int32) &&& 31))) ||| ((q72 (w 36 6) x w f) <<< ((2 : Int32) &&& 31))) ||| ((q72 (w 38 6) x w f) <<< ((3 : Int32) &&& 31))) ||| ((q72 (w 40 6) x w f) <<< ((4 : Int32) &&& 31))) ||| ((q72 (w 42 6) x w f) <<< ((5 : Int32) &&& 31)))), (0, pm_r 29)] [pm_b (w 44 6), .inl (((((((0 : Int32) ||| ((q72 (w 32 6) x w f) <<< ((0 : Int32) &&& 31))) ||| ((q72 (w 34 6) x w f) <<< ((1 : Int32) &&& 31))) ||| ((q72 (w 36 6) x w f) <<< ((2 : Int32) &&& 31))) ||| ((q72 (w 38 6) x w f) <<< ((3 : Int32) &&& 31))) ||| ((q72 (w 40 6) x w f) <<< ((4 : Int32) &&& 31))) ||| ((q72 (w 42 6) x w f) <<< ((5 : Int32) &&& 31)))] (pm_u x w f) := by
  exact (pm_ev_iter [20] 3000 _ _ _ _).trans rfl
theorem s29a_13 {sc : pm_Sc} (d : Nat)  (x : Nat → Nat → Int32) (w : Nat → Nat → Bool) (f : Nat → Nat → Nat) : pm_ev (pm_call pm_Tf sc (d + 0)) sc 1 pm_c29 20 [(2, .inl 6), (1, .inl (((((((0 : Int32) ||| ((q72 (w 32 6) x w f) <<< ((0 : Int32) &&& 31))) ||| ((q72 (w 34 6) x w f) <<< ((1 : Int32) &&& 31))) ||| ((q72 (w 36 6) x w f) <<< ((2 : Int32) &&& 31))) ||| ((q72 (w 38 6) x w f) <<< ((3 : Int32) &&& 31))) ||| ((q72 (w 40 6) x w f) <<< ((4 : Int32) &&& 31))) ||| ((q72 (w 42 6) x w f) <<< ((5 : Int32) &&& 31)))), (0, pm_r 29)] [pm_b (w 44 6), .inl (((((((0 : Int32) ||| ((q72 (w 32 6) x w f) <<< ((0 : Int32) &&& 31))) ||| ((q72 (w 34 6) x w f) <<< ((1 : Int32) &&& 31))) ||| ((q72 (w 36 6) x w f) <<< ((2 : Int32) &&& 31))) ||| ((q72 (w 38 6) x w f) <<< ((3 : Int32) &&& 31))) ||| ((q72 (w 40 6) x w f) <<< ((4 : Int32) &&& 31))) ||| ((q72 (w 42 6) x w f) <<< ((5 : Int32) &&& 31)))] (pm_u x w f) = pm_call1 (fun v u => pm_ev (pm_call pm_Tf sc (d + 0)) sc 1 pm_c29 23 [(2, .inl 6), (1, .inl (((((((0 : Int32) ||| ((q72 (w 32 6) x w f) <<< ((0 : Int32) &&& 31))) ||| ((q72 (w 34 6) x w f) <<< ((1 : Int32) &&& 31))) ||| ((q72 (w 36 6) x w f) <<< ((2 : Int32) &&& 31))) ||| ((q72 (w 38 6) x w f) <<< ((3 : Int32) &&& 31))) ||| ((q72 (w 40 6) x w f) <<< ((4 : Int32) &&& 31))) ||| ((q72 (w 42 6) x w f) <<< ((5 : Int32) &&& 31)))), (0, pm_r 29)] (v.toList ++ [.inl (((((((0 : Int32) ||| ((q72 (w 32 6) x w f) <<< ((0 : Int32) &&& 31))) ||| ((q72 (w 34 6) x w f) <<< ((1 : Int32) &&& 31))) ||| ((q72 (w 36 6) x w f) <<< ((2 : Int32) &&& 31))) ||| ((q72 (w 38 6) x w f) <<< ((3 : Int32) &&& 31))) ||| ((q72 (w 40 6) x w f) <<< ((4 : Int32) &&& 31))) ||| ((q72 (w 42 6) x w f) <<< ((5 : Int32) &&& 31)))]) u) none ((pm_call pm_Tf sc (d + 0)) 72 [pm_b (w 44 6)] (pm_u x w f)) := by
  exact (pm_ev_step _ _ _ _).trans rfl
theorem s29a_14 {sc : pm_Sc} (d : Nat)  (x : Nat → Nat → Int32) (w : Nat → Nat → Bool) (f : Nat → Nat → Nat) : pm_ev (pm_call pm_Tf sc (d + 0)) sc 1 pm_c29 23 [(2, .inl 6), (1, .inl (((((((0 : Int32) ||| ((q72 (w 32 6) x w f) <<< ((0 : Int32) &&& 31))) ||| ((q72 (w 34 6) x w f) <<< ((1 : Int32) &&& 31))) ||| ((q72 (w 36 6) x w f) <<< ((2 : Int32) &&& 31))) ||| ((q72 (w 38 6) x w f) <<< ((3 : Int32) &&& 31))) ||| ((q72 (w 40 6) x w f) <<< ((4 : Int32) &&& 31))) ||| ((q72 (w 42 6) x w f) <<< ((5 : Int32) &&& 31)))), (0, pm_r 29)] [.inl (q72 (w 44 6) x w f), .inl (((((((0 : Int32) ||| ((q72 (w 32 6) x w f) <<< ((0 : Int32) &&& 31))) ||| ((q72 (w 34 6) x w f) <<< ((1 : Int32) &&& 31))) ||| ((q72 (w 36 6) x w f) <<< ((2 : Int32) &&& 31))) ||| ((q72 (w 38 6) x w f) <<< ((3 : Int32) &&& 31))) ||| ((q72 (w 40 6) x w f) <<< ((4 : Int32) &&& 31))) ||| ((q72 (w 42 6) x w f) <<< ((5 : Int32) &&& 31)))] (pm_u x w f) = pm_ev (pm_call pm_Tf sc (d + 0)) sc 1 pm_c29 20 [(2, .inl 7), (1, .inl ((((((((0 : Int32) ||| ((q72 (w 32 6) x w f) <<< ((0 : Int32) &&& 31))) ||| ((q72 (w 34 6) x w f) <<< ((1 : Int32) &&& 31))) ||| ((q72 (w 36 6) x w f) <<< ((2 : Int32) &&& 31))) ||| ((q72 (w 38 6) x w f) <<< ((3 : Int32) &&& 31))) ||| ((q72 (w 40 6) x w f) <<< ((4 : Int32) &&& 31))) ||| ((q72 (w 42 6) x w f) <<< ((5 : Int32) &&& 31))) ||| ((q72 (w 44 6) x w f) <<< ((6 : Int32) &&& 31)))), (0, pm_r 29)] [pm_b (w 46 6), .inl ((((((((0 : Int32) ||| ((q72 (w 32 6) x w f) <<< ((0 : Int32) &&& 31))) ||| ((q72 (w 34 6) x w f) <<< ((1 : Int32) &&& 31))) ||| ((q72 (w 36 6) x w f) <<< ((2 : Int32) &&& 31))) ||| ((q72 (w 38 6) x w f) <<< ((3 : Int32) &&& 31))) ||| ((q72 (w 40 6) x w f) <<< ((4 : Int32) &&& 31))) ||| ((q72 (w 42 6) x w f) <<< ((5 : Int32) &&& 31))) ||| ((q72 (w 44 6) x w f) <<< ((6 : Int32) &&& 31)))] (pm_u x w f) := by
  exact (pm_ev_iter [20] 3000 _ _ _ _).trans rfl
theorem s29a_15 {sc : pm_Sc} (d : Nat)  (x : Nat → Nat → Int32) (w : Nat → Nat → Bool) (f : Nat → Nat → Nat) : pm_ev (pm_call pm_Tf sc (d + 0)) sc 1 pm_c29 20 [(2, .inl 7), (1, .inl ((((((((0 : Int32) ||| ((q72 (w 32 6) x w f) <<< ((0 : Int32) &&& 31))) ||| ((q72 (w 34 6) x w f) <<< ((1 : Int32) &&& 31))) ||| ((q72 (w 36 6) x w f) <<< ((2 : Int32) &&& 31))) ||| ((q72 (w 38 6) x w f) <<< ((3 : Int32) &&& 31))) ||| ((q72 (w 40 6) x w f) <<< ((4 : Int32) &&& 31))) ||| ((q72 (w 42 6) x w f) <<< ((5 : Int32) &&& 31))) ||| ((q72 (w 44 6) x w f) <<< ((6 : Int32) &&& 31)))), (0, pm_r 29)] [pm_b (w 46 6), .inl ((((((((0 : Int32) ||| ((q72 (w 32 6) x w f) <<< ((0 : Int32) &&& 31))) ||| ((q72 (w 34 6) x w f) <<< ((1 : Int32) &&& 31))) ||| ((q72 (w 36 6) x w f) <<< ((2 : Int32) &&& 31))) ||| ((q72 (w 38 6) x w f) <<< ((3 : Int32) &&& 31))) ||| ((q72 (w 40 6) x w f) <<< ((4 : Int32) &&& 31))) ||| ((q72 (w 42 6) x w f) <<< ((5 : Int32) &&& 31))) ||| ((q72 (w 44 6) x w f) <<< ((6 : Int32) &&& 31)))] (pm_u x w f) = pm_call1 (fun v u => pm_ev (pm_call pm_Tf sc (d + 0)) sc 1 pm_c29 23 [(2, .inl 7), (1, .inl ((((((((0 : Int32) ||| ((q72 (w 32 6) x w f) <<< ((0 : Int32) &&& 31))) ||| ((q72 (w 34 6) x w f) <<< ((1 : Int32) &&& 31))) ||| ((q72 (w 36 6) x w f) <<< ((2 : Int32) &&& 31))) ||| ((q72 (w 38 6) x w f) <<< ((3 : Int32) &&& 31))) ||| ((q72 (w 40 6) x w f) <<< ((4 : Int32) &&& 31))) ||| ((q72 (w 42 6) x w f) <<< ((5 : Int32) &&& 31))) ||| ((q72 (w 44 6) x w f) <<< ((6 : Int32) &&& 31)))), (0, pm_r 29)] (v.toList ++ [.inl ((((((((0 : Int32) ||| ((q72 (w 32 6) x w f) <<< ((0 : Int32) &&& 31))) ||| ((q72 (w 34 6) x w f) <<< ((1 : Int32) &&& 31))) ||| ((q72 (w 36 6) x w f) <<< ((2 : Int32) &&& 31))) ||| ((q72 (w 38 6) x w f) <<< ((3 : Int32) &&& 31))) ||| ((q72 (w 40 6) x w f) <<< ((4 : Int32) &&& 31))) ||| ((q72 (w 42 6) x w f) <<< ((5 : Int32) &&& 31))) ||| ((q72 (w 44 6) x w f) <<< ((6 : Int32) &&& 31)))]) u) none ((pm_call pm_Tf sc (d + 0)) 72 [pm_b (w 46 6)] (pm_u x w f)) := by
  exact (pm_ev_step _ _ _ _).trans rfl
theorem s29a_16 {sc : pm_Sc} (d : Nat)  (x : Nat → Nat → Int32) (w : Nat → Nat → Bool) (f : Nat → Nat → Nat) : pm_ev (pm_call pm_Tf sc (d + 0)) sc 1 pm_c29 23 [(2, .inl 7), (1, .inl ((((((((0 : Int32) ||| ((q72 (w 32 6) x w f) <<< ((0 : Int32) &&& 31))) ||| ((q72 (w 34 6) x w f) <<< ((1 : Int32) &&& 31))) ||| ((q72 (w 36 6) x w f) <<< ((2 : Int32) &&& 31))) ||| ((q72 (w 38 6) x w f) <<< ((3 : Int32) &&& 31))) ||| ((q72 (w 40 6) x w f) <<< ((4 : Int32) &&& 31))) ||| ((q72 (w 42 6) x w f) <<< ((5 : Int32) &&& 31))) ||| ((q72 (w 44 6) x w f) <<< ((6 : Int32) &&& 31)))), (0, pm_r 29)] [.inl (q72 (w 46 6) x w f), .inl ((((((((0 : Int32) ||| ((q72 (w 32 6) x w f) <<< ((0 : Int32) &&& 31))) ||| ((q72 (w 34 6) x w f) <<< ((1 : Int32) &&& 31))) ||| ((q72 (w 36 6) x w f) <<< ((2 : Int32) &&& 31))) ||| ((q72 (w 38 6) x w f) <<< ((3 : Int32) &&& 31))) ||| ((q72 (w 40 6) x w f) <<< ((4 : Int32) &&& 31))) ||| ((q72 (w 42 6) x w f) <<< ((5 : Int32) &&& 31))) ||| ((q72 (w 44 6) x w f) <<< ((6 : Int32) &&& 31)))] (pm_u x w f) = some (some (.inl (((((((((0 : Int32) ||| ((q72 (w 32 6) x w f) <<< ((0 : Int32) &&& 31))) ||| ((q72 (w 34 6) x w f) <<< ((1 : Int32) &&& 31))) ||| ((q72 (w 36 6) x w f) <<< ((2 : Int32) &&& 31))) ||| ((q72 (w 38 6) x w f) <<< ((3 : Int32) &&& 31))) ||| ((q72 (w 40 6) x w f) <<< ((4 : Int32) &&& 31))) ||| ((q72 (w 42 6) x w f) <<< ((5 : Int32) &&& 31))) ||| ((q72 (w 44 6) x w f) <<< ((6 : Int32) &&& 31))) ||| ((q72 (w 46 6) x w f) <<< ((7 : Int32) &&& 31)))), pm_u x w f) := by
  exact (pm_ev_iter [20] 3000 _ _ _ _).trans rfl
def q29a (x : Nat → Nat → Int32) (w : Nat → Nat → Bool) (f : Nat → Nat → Nat) : Int32 := ((((((((0 : Int32) ||| ((q72 (w 32 6) x w f) <<< ((0 : Int32) &&& 31))) ||| ((q72 (w 34 6) x w f) <<< ((1 : Int32) &&& 31))) ||| ((q72 (w 36 6) x w f) <<< ((2 : Int32) &&& 31))) ||| ((q72 (w 38 6) x w f) <<< ((3 : Int32) &&& 31))) ||| ((q72 (w 40 6) x w f) <<< ((4 : Int32) &&& 31))) ||| ((q72 (w 42 6) x w f) <<< ((5 : Int32) &&& 31))) ||| ((q72 (w 44 6) x w f) <<< ((6 : Int32) &&& 31))) ||| ((q72 (w 46 6) x w f) <<< ((7 : Int32) &&& 31))
theorem e29a {sc : pm_Sc} (d : Nat)  (x : Nat → Nat → Int32) (w : Nat → Nat → Bool) (f : Nat → Nat → Nat) : pm_ev (pm_call pm_Tf sc (d + 0)) sc 1 pm_c29 0 [(0, pm_r 29)] [] (pm_u x w f) = some (pm_g1 x w f (q29a x w f)) := (s29a_0 d  x w f).trans (((s29a_1 d  x w f).trans ((pm_call1_of (z72 (d + 0) (w 32 6) x w f)).trans ((s29a_2 d  x w f).trans (((s29a_3 d  x w f).trans ((pm_call1_of (z72 (d + 0) (w 34 6) x w f)).trans ((s29a_4 d  x w f).trans (((s29a_5 d  x w f).trans ((pm_call1_of (z72 (d + 0) (w 36 6) x w f)).trans ((s29a_6 d  x w f).trans (((s29a_7 d  x w f).trans ((pm_call1_of (z72 (d + 0) (w 38 6) x w f)).trans ((s29a_8 d  x w f).trans (((s29a_9 d  x w f).trans ((pm_call1_of (z72 (d + 0) (w 40 6) x w f)).trans ((s29a_10 d  x w f).trans (((s29a_11 d  x w f).trans ((pm_call1_of (z72 (d + 0) (w 42 6) x w f)).trans ((s29a_12 d  x w f).trans (((s29a_13 d  x w f).trans ((pm_call1_of (z72 (d + 0) (w 44 6) x w f)).trans ((s29a_14 d  x w f).trans (((s29a_15 d  x w f).trans ((pm_call1_of (z72 (d + 0) (w 46 6) x w f)).trans ((s29a_16 d  x w f).trans (rfl)))))))))))))))))))))))))))))))))
theorem z29a {sc : pm_Sc} (d : Nat) (x : Nat → Nat → Int32) (w : Nat → Nat → Bool) (f : Nat → Nat → Nat) : pm_call pm_Tf sc (d + 1) 29 [pm_r 29] (pm_u x w f) = some (pm_g1 x w f (q29a x w f)) := e29a d x w f
theorem s25b_0 {c : Nat → List pm_V → pm_S → Option pm_Rs} {sc : pm_Sc}  (x : Nat → Nat → Int32) (w : Nat → Nat → Bool) (f : Nat → Nat → Nat) : pm_ev c sc 1 pm_c25 0 [(0, pm_r 48)] [] (pm_u x w f) = (if (x 50 1) = 0 then some (some (.inl (-2)), pm_u x w f) else some (some (.inl ((x 48 4) - ((x 50 1) * (5 : Int32)))), pm_u x w f)) := by
  exact (pm_ev_iter [] 3000 _ _ _ _).trans rfl
def q25b (x : Nat → Nat → Int32) (w : Nat → Nat → Bool) (f : Nat → Nat → Nat) : Int32 := (if (x 50 1) = 0 then (-2) else (x 48 4) - ((x 50 1) * (5 : Int32)))
theorem e25b {c : Nat → List pm_V → pm_S → Option pm_Rs} {sc : pm_Sc}  (x : Nat → Nat → Int32) (w : Nat → Nat → Bool) (f : Nat → Nat → Nat) : pm_ev c sc 1 pm_c25 0 [(0, pm_r 48)] [] (pm_u x w f) = some (pm_g1 x w f (q25b x w f)) := (s25b_0  x w f).trans (pm_iteG (g := (fun t => some (pm_g1 x w f t))) (fun _ => rfl) (fun _ => rfl))
theorem z25b {sc : pm_Sc} (d : Nat) (x : Nat → Nat → Int32) (w : Nat → Nat → Bool) (f : Nat → Nat → Nat) : pm_call pm_Tf sc (d + 0) 25 [pm_r 48] (pm_u x w f) = some (pm_g1 x w f (q25b x w f)) := pm_call_0 (fun _ => e25b x w f) d
theorem s26b_0 {sc : pm_Sc} (d : Nat)  (x : Nat → Nat → Int32) (w : Nat → Nat → Bool) (f : Nat → Nat → Nat) : pm_ev (pm_call pm_Tf sc (d + 0)) sc 2 pm_c26 0 [(0, pm_r 48)] [] (pm_u x w f) = pm_ev (pm_call pm_Tf sc (d + 0)) sc 2 pm_c26 1 [(0, pm_r 48)] [pm_r 48] (pm_u x w f) := by
  exact (pm_ev_iter [1] 3000 _ _ _ _).trans rfl
theorem s26b_1 {sc : pm_Sc} (d : Nat)  (x : Nat → Nat → Int32) (w : Nat → Nat → Bool) (f : Nat → Nat → Nat) : pm_ev (pm_call pm_Tf sc (d + 0)) sc 2 pm_c26 1 [(0, pm_r 48)] [pm_r 48] (pm_u x w f) = pm_call1 (fun v u => pm_ev (pm_call pm_Tf sc (d + 0)) sc 2 pm_c26 4 [(0, pm_r 48)] (v.toList ++ []) u) none ((pm_call pm_Tf sc (d + 0)) 25 [pm_r 48] (pm_u x w f)) := by
  exact (pm_ev_step _ _ _ _).trans rfl
theorem s26b_2 {sc : pm_Sc} (d : Nat)  (x : Nat → Nat → Int32) (w : Nat → Nat → Bool) (f : Nat → Nat → Nat) : pm_ev (pm_call pm_Tf sc (d + 0)) sc 2 pm_c26 4 [(0, pm_r 48)] [.inl (q25b x w f)] (pm_u x w f) = (if (q25b x w f) = (-2) then some (some (pm_b false), pm_u x w f) else (if 25 < (q25b x w f) then some (some (pm_b false), pm_u x w f) else some (some (pm_b true), pm_u x w f))) := by
  exact (pm_ev_iter [1] 3000 _ _ _ _).trans rfl
def q26b (x : Nat → Nat → Int32) (w : Nat → Nat → Bool) (f : Nat → Nat → Nat) : Bool := (if (q25b x w f) = (-2) then false else (if 25 < (q25b x w f) then false else true))
theorem e26b {sc : pm_Sc} (d : Nat)  (x : Nat → Nat → Int32) (w : Nat → Nat → Bool) (f : Nat → Nat → Nat) : pm_ev (pm_call pm_Tf sc (d + 0)) sc 2 pm_c26 0 [(0, pm_r 48)] [] (pm_u x w f) = some (pm_g2 x w f (q26b x w f)) := (s26b_0 d  x w f).trans (((s26b_1 d  x w f).trans ((pm_call1_of (z25b (d + 0) x w f)).trans ((s26b_2 d  x w f).trans (pm_iteG (g := (fun t => some (pm_g2 x w f t))) (fun _ => rfl) (fun _ => pm_iteG (g := (fun t => some (pm_g2 x w f t))) (fun _ => rfl) (fun _ => rfl)))))))
theorem z26b {sc : pm_Sc} (d : Nat) (x : Nat → Nat → Int32) (w : Nat → Nat → Bool) (f : Nat → Nat → Nat) : pm_call pm_Tf sc (d + 1) 26 [pm_r 48] (pm_u x w f) = some (pm_g2 x w f (q26b x w f)) := e26b d x w f
theorem s27b_0 {sc : pm_Sc} (d : Nat)  (x : Nat → Nat → Int32) (w : Nat → Nat → Bool) (f : Nat → Nat → Nat) : pm_ev (pm_call pm_Tf sc (d + 0)) sc 2 pm_c27 0 [(0, pm_r 48)] [] (pm_u x w f) = pm_ev (pm_call pm_Tf sc (d + 0)) sc 2 pm_c27 1 [(0, pm_r 48)] [pm_r 48] (pm_u x w f) := by
  exact (pm_ev_iter [1] 3000 _ _ _ _).trans rfl
theorem s27b_1 {sc : pm_Sc} (d : Nat)  (x : Nat → Nat → Int32) (w : Nat → Nat → Bool) (f : Nat → Nat → Nat) : pm_ev (pm_call pm_Tf sc (d + 0)) sc 2 pm_c27 1 [(0, pm_r 48)] [pm_r 48] (pm_u x w f) = pm_call1 (fun v u => pm_ev (pm_call pm_Tf sc (d + 0)) sc 2 pm_c27 4 [(0, pm_r 48)] (v.toList ++ []) u) none ((pm_call pm_Tf sc (d + 0)) 25 [pm_r 48] (pm_u x w f)) := by
  exact (pm_ev_step _ _ _ _).trans rfl
theorem s27b_2 {sc : pm_Sc} (d : Nat)  (x : Nat → Nat → Int32) (w : Nat → Nat → Bool) (f : Nat → Nat → Nat) : pm_ev (pm_call pm_Tf sc (d + 0)) sc 2 pm_c27 4 [(0, pm_r 48)] [.inl (q25b x w f)] (pm_u x w f) = (if (q25b x w f) = (-2) then some (some (pm_b true), pm_u x w f) else (if (q25b x w f) ≤ 75 then some (some (pm_b false), pm_u x w f) else some (some (pm_b true), pm_u x w f))) := by
  exact (pm_ev_iter [1] 3000 _ _ _ _).trans rfl
def q27b (x : Nat → Nat → Int32) (w : Nat → Nat → Bool) (f : Nat → Nat → Nat) : Bool := (if (q25b x w f) = (-2) then true else (if (q25b x w f) ≤ 75 then false else true))
theorem e27b {sc : pm_Sc} (d : Nat)  (x : Nat → Nat → Int32) (w : Nat → Nat → Bool) (f : Nat → Nat → Nat) : pm_ev (pm_call pm_Tf sc (d + 0)) sc 2 pm_c27 0 [(0, pm_r 48)] [] (pm_u x w f) = some (pm_g2 x w f (q27b x w f)) := (s27b_0 d  x w f).trans (((s27b_1 d  x w f).trans ((pm_call1_of (z25b (d + 0) x w f)).trans ((s27b_2 d  x w f).trans (pm_iteG (g := (fun t => some (pm_g2 x w f t))) (fun _ => rfl) (fun _ => pm_iteG (g := (fun t => some (pm_g2 x w f t))) (fun _ => rfl) (fun _ => rfl)))))))
theorem z27b {sc : pm_Sc} (d : Nat) (x : Nat → Nat → Int32) (w : Nat → Nat → Bool) (f : Nat → Nat → Nat) : pm_call pm_Tf sc (d + 1) 27 [pm_r 48] (pm_u x w f) = some (pm_g2 x w f (q27b x w f)) := e27b d x w f
theorem s28b_0 {sc : pm_Sc} (d : Nat)  (x : Nat → Nat → Int32) (w : Nat → Nat → Bool) (f : Nat → Nat → Nat) : pm_ev (pm_call pm_Tf sc (d + 1)) sc 1 pm_c28 0 [(0, pm_r 48)] [] (pm_u x w f) = pm_ev (pm_call pm_Tf sc (d + 1)) sc 1 pm_c28 17 [(2, .inl 0), (1, .inl 0), (0, pm_r 48)] [pm_r 51, .inl 0] (pm_u x w f) := by
  exact (pm_ev_iter [17, 20] 3000 _ _ _ _).trans rfl
theorem s28b_1 {sc : pm_Sc} (d : Nat)  (x : Nat → Nat → Int32) (w : Nat → Nat → Bool) (f : Nat → Nat → Nat) : pm_ev (pm_call pm_Tf sc (d + 1)) sc 1 pm_c28 17 [(2, .inl 0), (1, .inl 0), (0, pm_r 48)] [pm_r 51, .inl 0] (pm_u x w f) = pm_call1 (fun v u => pm_ev (pm_call pm_Tf sc (d + 1)) sc 1 pm_c28 20 [(2, .inl 0), (1, .inl 0), (0, pm_r 48)] (v.toList ++ [.inl 0]) u) none ((pm_call pm_Tf sc (d + 1)) 11 [pm_r 51] (pm_u x w f)) := by
  exact (pm_ev_step _ _ _ _).trans rfl
theorem s28b_2 {sc : pm_Sc} (d : Nat)  (x : Nat → Nat → Int32) (w : Nat → Nat → Bool) (f : Nat → Nat → Nat) : pm_ev (pm_call pm_Tf sc (d + 1)) sc 1 pm_c28 20 [(2, .inl 0), (1, .inl 0), (0, pm_r 48)] [pm_b (q11 51 x w f), .inl 0] (pm_u x w f) = pm_call1 (fun v u => pm_ev (pm_call pm_Tf sc (d + 1)) sc 1 pm_c28 23 [(2, .inl 0), (1, .inl 0), (0, pm_r 48)] (v.toList ++ [.inl 0]) u) none ((pm_call pm_Tf sc (d + 1)) 72 [pm_b (q11 51 x w f)] (pm_u x w f)) := by
  exact (pm_ev_step _ _ _ _).trans rfl
theorem s28b_3 {sc : pm_Sc} (d : Nat)  (x : Nat → Nat → Int32) (w : Nat → Nat → Bool) (f : Nat → Nat → Nat) : pm_ev (pm_call pm_Tf sc (d + 1)) sc 1 pm_c28 23 [(2, .inl 0), (1, .inl 0), (0, pm_r 48)] [.inl (q72 (q11 51 x w f) x w f), .inl 0] (pm_u x w f) = pm_ev (pm_call pm_Tf sc (d + 1)) sc 1 pm_c28 17 [(2, .inl 1), (1, .inl ((0 : Int32) + (q72 (q11 51 x w f) x w f))), (0, pm_r 48)] [pm_r 53, .inl ((0 : Int32) + (q72 (q11 51 x w f) x w f))] (pm_u x w f) := by
  exact (pm_ev_iter [17, 20] 3000 _ _ _ _).trans rfl
theorem s28b_4 {sc : pm_Sc} (d : Nat)  (x : Nat → Nat → Int32) (w : Nat → Nat → Bool) (f : Nat → Nat → Nat) : pm_ev (pm_call pm_Tf sc (d + 1)) sc 1 pm_c28 17 [(2, .inl 1), (1, .inl ((0 : Int32) + (q72 (q11 51 x w f) x w f))), (0, pm_r 48)] [pm_r 53, .inl ((0 : Int32) + (q72 (q11 51 x w f) x w f))] (pm_u x w f) = pm_call1 (fun v u => pm_ev (pm_call pm_Tf sc (d + 1)) sc 1 pm_c28 20 [(2, .inl 1), (1, .inl ((0 : Int32) + (q72 (q11 51 x w f) x w f))), (0, pm_r 48)] (v.toList ++ [.inl ((0 : Int32) + (q72 (q11 51 x w f) x w f))]) u) none ((pm_call pm_Tf sc (d + 1)) 11 [pm_r 53] (pm_u x w f)) := by
  exact (pm_ev_step _ _ _ _).trans rfl
theorem s28b_5 {sc : pm_Sc} (d : Nat)  (x : Nat → Nat → Int32) (w : Nat → Nat → Bool) (f : Nat → Nat → Nat) : pm_ev (pm_call pm_Tf sc (d + 1)) sc 1 pm_c28 20 [(2, .inl 1), (1, .inl ((0 : Int32) + (q72 (q11 51 x w f) x w f))), (0, pm_r 48)] [pm_b (q11 53 x w f), .inl ((0 : Int32) + (q72 (q11 51 x w f) x w f))] (pm_u x w f) = pm_call1 (fun v u => pm_ev (pm_call pm_Tf sc (d + 1)) sc 1 pm_c28 23 [(2, .inl 1), (1, .inl ((0 : Int32) + (q72 (q11 51 x w f) x w f))), (0, pm_r 48)] (v.toList ++ [.inl ((0 : Int32) + (q72 (q11 51 x w f) x w f))]) u) none ((pm_call pm_Tf sc (d + 1)) 72 [pm_b (q11 53 x w f)] (pm_u x w f)) := by
  exact (pm_ev_step _ _ _ _).trans rfl
theorem s28b_6 {sc : pm_Sc} (d : Nat)  (x : Nat → Nat → Int32) (w : Nat → Nat → Bool) (f : Nat → Nat → Nat) : pm_ev (pm_call pm_Tf sc (d + 1)) sc 1 pm_c28 23 [(2, .inl 1), (1, .inl ((0 : Int32) + (q72 (q11 51 x w f) x w f))), (0, pm_r 48)] [.inl (q72 (q11 53 x w f) x w f), .inl ((0 : Int32) + (q72 (q11 51 x w f) x w f))] (pm_u x w f) = pm_ev (pm_call pm_Tf sc (d + 1)) sc 1 pm_c28 17 [(2, .inl 2), (1, .inl (((0 : Int32) + (q72 (q11 51 x w f) x w f)) + (q72 (q11 53 x w f) x w f))), (0, pm_r 48)] [pm_r 55, .inl (((0 : Int32) + (q72 (q11 51 x w f) x w f)) + (q72 (q11 53 x w f) x w f))] (pm_u x w f) := by
  exact (pm_ev_iter [17, 20] 3000 _ _ _ _).trans rfl
theorem s28b_7 {sc : pm_Sc} (d : Nat)  (x : Nat → Nat → Int32) (w : Nat → Nat → Bool) (f : Nat → Nat → Nat) : pm_ev (pm_call pm_Tf sc (d + 1)) sc 1 pm_c28 17 [(2, .inl 2), (1, .inl (((0 : Int32) + (q72 (q11 51 x w f) x w f)) + (q72 (q11 53 x w f) x w f))), (0, pm_r 48)] [pm_r 55, .inl (((0 : Int32) + (q72 (q11 51 x w f) x w f)) + (q72 (q11 53 x w f) x w f))] (pm_u x w f) = pm_call1 (fun v u => pm_ev (pm_call pm_Tf sc (d + 1)) sc 1 pm_c28 20 [(2, .inl 2), (1, .inl (((0 : Int32) + (q72 (q11 51 x w f) x w f)) + (q72 (q11 53 x w f) x w f))), (0, pm_r 48)] (v.toList ++ [.inl (((0 : Int32) + (q72 (q11 51 x w f) x w f)) + (q72 (q11 53 x w f) x w f))]) u) none ((pm_call pm_Tf sc (d + 1)) 11 [pm_r 55] (pm_u x w f)) := by
  exact (pm_ev_step _ _ _ _).trans rfl
theorem s28b_8 {sc : pm_Sc} (d : Nat)  (x : Nat → Nat → Int32) (w : Nat → Nat → Bool) (f : Nat → Nat → Nat) : pm_ev (pm_call pm_Tf sc (d + 1)) sc 1 pm_c28 20 [(2, .inl 2), (1, .inl (((0 : Int32) + (q72 (q11 51 x w f) x w f)) + (q72 (q11 53 x w f) x w f))), (0, pm_r 48)] [pm_b (q11 55 x w f), .inl (((0 : Int32) + (q72 (q11 51 x w f) x w f)) + (q72 (q11 53 x w f) x w f))] (pm_u x w f) = pm_call1 (fun v u => pm_ev (pm_call pm_Tf sc (d + 1)) sc 1 pm_c28 23 [(2, .inl 2), (1, .inl (((0 : Int32) + (q72 (q11 51 x w f) x w f)) + (q72 (q11 53 x w f) x w f))), (0, pm_r 48)] (v.toList ++ [.inl (((0 : Int32) + (q72 (q11 51 x w f) x w f)) + (q72 (q11 53 x w f) x w f))]) u) none ((pm_call pm_Tf sc (d + 1)) 72 [pm_b (q11 55 x w f)] (pm_u x w f)) := by
  exact (pm_ev_step _ _ _ _).trans rfl
theorem s28b_9 {sc : pm_Sc} (d : Nat)  (x : Nat → Nat → Int32) (w : Nat → Nat → Bool) (f : Nat → Nat → Nat) : pm_ev (pm_call pm_Tf sc (d + 1)) sc 1 pm_c28 23 [(2, .inl 2), (1, .inl (((0 : Int32) + (q72 (q11 51 x w f) x w f)) + (q72 (q11 53 x w f) x w f))), (0, pm_r 48)] [.inl (q72 (q11 55 x w f) x w f), .inl (((0 : Int32) + (q72 (q11 51 x w f) x w f)) + (q72 (q11 53 x w f) x w f))] (pm_u x w f) = pm_ev (pm_call pm_Tf sc (d + 1)) sc 1 pm_c28 17 [(2, .inl 3), (1, .inl ((((0 : Int32) + (q72 (q11 51 x w f) x w f)) + (q72 (q11 53 x w f) x w f)) + (q72 (q11 55 x w f) x w f))), (0, pm_r 48)] [pm_r 57, .inl ((((0 : Int32) + (q72 (q11 51 x w f) x w f)) + (q72 (q11 53 x w f) x w f)) + (q72 (q11 55 x w f) x w f))] (pm_u x w f) := by
  exact (pm_ev_iter [17, 20] 3000 _ _ _ _).trans rfl
theorem s28b_10 {sc : pm_Sc} (d : Nat)  (x : Nat → Nat → Int32) (w : Nat → Nat → Bool) (f : Nat → Nat → Nat) : pm_ev (pm_call pm_Tf sc (d + 1)) sc 1 pm_c28 17 [(2, .inl 3), (1, .inl ((((0 : Int32) + (q72 (q11 51 x w f) x w f)) + (q72 (q11 53 x w f) x w f)) + (q72 (q11 55 x w f) x w f))), (0, pm_r 48)] [pm_r 57, .inl ((((0 : Int32) + (q72 (q11 51 x w f) x w f)) + (q72 (q11 53 x w f) x w f)) + (q72 (q11 55 x w f) x w f))] (pm_u x w f) = pm_call1 (fun v u => pm_ev (pm_call pm_Tf sc (d + 1)) sc 1 pm_c28 20 [(2, .inl 3), (1, .inl ((((0 : Int32) + (q72 (q11 51 x w f) x w f)) + (q72 (q11 53 x w f) x w f)) + (q72 (q11 55 x w f) x w f))), (0, pm_r 48)] (v.toList ++ [.inl ((((0 : Int32) + (q72 (q11 51 x w f) x w f)) + (q72 (q11 53 x w f) x w f)) + (q72 (q11 55 x w f) x w f))]) u) none ((pm_call pm_Tf sc (d + 1)) 11 [pm_r 57] (pm_u x w f)) := by
  exact (pm_ev_step _ _ _ _).trans rfl
theorem s28b_11 {sc : pm_Sc} (d : Nat)  (x : Nat → Nat → Int32) (w : Nat → Nat → Bool) (f : Nat → Nat → Nat) : pm_ev (pm_call pm_Tf sc (d + 1)) sc 1 pm_c28 20 [(2, .inl 3), (1, .inl ((((0 : Int32) + (q72 (q11 51 x w f) x w f)) + (q72 (q11 53 x w f) x w f)) + (q72 (q11 55 x w f) x w f))), (0, pm_r 48)] [pm_b (q11 57 x w f), .inl ((((0 : Int32) + (q72 (q11 51 x w f) x w f)) + (q72 (q11 53 x w f) x w f)) + (q72 (q11 55 x w f) x w f))] (pm_u x w f) = pm_call1 (fun v u => pm_ev (pm_call pm_Tf sc (d + 1)) sc 1 pm_c28 23 [(2, .inl 3), (1, .inl ((((0 : Int32) + (q72 (q11 51 x w f) x w f)) + (q72 (q11 53 x w f) x w f)) + (q72 (q11 55 x w f) x w f))), (0, pm_r 48)] (v.toList ++ [.inl ((((0 : Int32) + (q72 (q11 51 x w f) x w f)) + (q72 (q11 53 x w f) x w f)) + (q72 (q11 55 x w f) x w f))]) u) none ((pm_call pm_Tf sc (d + 1)) 72 [pm_b (q11 57 x w f)] (pm_u x w f)) := by
  exact (pm_ev_step _ _ _ _).trans rfl
theorem s28b_12 {sc : pm_Sc} (d : Nat)  (x : Nat → Nat → Int32) (w : Nat → Nat → Bool) (f : Nat → Nat → Nat) : pm_ev (pm_call pm_Tf sc (d + 1)) sc 1 pm_c28 23 [(2, .inl 3), (1, .inl ((((0 : Int32) + (q72 (q11 51 x w f) x w f)) + (q72 (q11 53 x w f) x w f)) + (q72 (q11 55 x w f) x w f))), (0, pm_r 48)] [.inl (q72 (q11 57 x w f) x w f), .inl ((((0 : Int32) + (q72 (q11 51 x w f) x w f)) + (q72 (q11 53 x w f) x w f)) + (q72 (q11 55 x w f) x w f))] (pm_u x w f) = pm_ev (pm_call pm_Tf sc (d + 1)) sc 1 pm_c28 17 [(2, .inl 4), (1, .inl (((((0 : Int32) + (q72 (q11 51 x w f) x w f)) + (q72 (q11 53 x w f) x w f)) + (q72 (q11 55 x w f) x w f)) + (q72 (q11 57 x w f) x w f))), (0, pm_r 48)] [pm_r 59, .inl (((((0 : Int32) + (q72 (q11 51 x w f) x w f)) + (q72 (q11 53 x w f) x w f)) + (q72 (q11 55 x w f) x w f)) + (q72 (q11 57 x w f) x w f))] (pm_u x w f) := by
  exact (pm_ev_iter [17, 20] 3000 _ _ _ _).trans rfl
theorem s28b_13 {sc : pm_Sc} (d : Nat)  (x : Nat → Nat → Int32) (w : Nat → Nat → Bool) (f : Nat → Nat → Nat) : pm_ev (pm_call pm_Tf sc (d + 1)) sc 1 pm_c28 17 [(2, .inl 4), (1, .inl (((((0 : Int32) + (q72 (q11 51 x w f) x w f)) + (q72 (q11 53 x w f) x w f)) + (q72 (q11 55 x w f) x w f)) + (q72 (q11 57 x w f) x w f))), (0, pm_r 48)] [pm_r 59, .inl (((((0 : Int32) + (q72 (q11 51 x w f) x w f)) + (q72 (q11 53 x w f) x w f)) + (q72 (q11 55 x w f) x w f)) + (q72 (q11 57 x w f) x w f))] (pm_u x w f) = pm_call1 (fun v u => pm_ev (pm_call pm_Tf sc (d + 1)) sc 1 pm_c28 20 [(2, .inl 4), (1, .inl (((((0 : Int32) + (q72 (q11 51 x w f) x w f)) + (q72 (q11 53 x w f) x w f)) + (q72 (q11 55 x w f) x w f)) + (q72 (q11 57 x w f) x w f))), (0, pm_r 48)] (v.toList ++ [.inl (((((0 : Int32) + (q72 (q11 51 x w f) x w f)) + (q72 (q11 53 x w f) x w f)) + (q72 (q11 55 x w f) x w f)) + (q72 (q11 57 x w f) x w f))]) u) none ((pm_call pm_Tf sc (d + 1)) 11 [pm_r 59] (pm_u x w f)) := by
  exact (pm_ev_step _ _ _ _).trans rfl
theorem s28b_14 {sc : pm_Sc} (d : Nat)  (x : Nat → Nat → Int32) (w : Nat → Nat → Bool) (f : Nat → Nat → Nat) : pm_ev (pm_call pm_Tf sc (d + 1)) sc 1 pm_c28 20 [(2, .inl 4), (1, .inl (((((0 : Int32) + (q72 (q11 51 x w f) x w f)) + (q72 (q11 53 x w f) x w f)) + (q72 (q11 55 x w f) x w f)) + (q72 (q11 57 x w f) x w f))), (0, pm_r 48)] [pm_b (q11 59 x w f), .inl (((((0 : Int32) + (q72 (q11 51 x w f) x w f)) + (q72 (q11 53 x w f) x w f)) + (q72 (q11 55 x w f) x w f)) + (q72 (q11 57 x w f) x w f))] (pm_u x w f) = pm_call1 (fun v u => pm_ev (pm_call pm_Tf sc (d + 1)) sc 1 pm_c28 23 [(2, .inl 4), (1, .inl (((((0 : Int32) + (q72 (q11 51 x w f) x w f)) + (q72 (q11 53 x w f) x w f)) + (q72 (q11 55 x w f) x w f)) + (q72 (q11 57 x w f) x w f))), (0, pm_r 48)] (v.toList ++ [.inl (((((0 : Int32) + (q72 (q11 51 x w f) x w f)) + (q72 (q11 53 x w f) x w f)) + (q72 (q11 55 x w f) x w f)) + (q72 (q11 57 x w f) x w f))]) u) none ((pm_call pm_Tf sc (d + 1)) 72 [pm_b (q11 59 x w f)] (pm_u x w f)) := by
  exact (pm_ev_step _ _ _ _).trans rfl
theorem s28b_15 {sc : pm_Sc} (d : Nat)  (x : Nat → Nat → Int32) (w : Nat → Nat → Bool) (f : Nat → Nat → Nat) : pm_ev (pm_call pm_Tf sc (d + 1)) sc 1 pm_c28 23 [(2, .inl 4), (1, .inl (((((0 : Int32) + (q72 (q11 51 x w f) x w f)) + (q72 (q11 53 x w f) x w f)) + (q72 (q11 55 x w f) x w f)) + (q72 (q11 57 x w f) x w f))), (0, pm_r 48)] [.inl (q72 (q11 59 x w f) x w f), .inl (((((0 : Int32) + (q72 (q11 51 x w f) x w f)) + (q72 (q11 53 x w f) x w f)) + (q72 (q11 55 x w f) x w f)) + (q72 (q11 57 x w f) x w f))] (pm_u x w f) = pm_ev (pm_call pm_Tf sc (d + 1)) sc 1 pm_c28 17 [(2, .inl 5), (1, .inl ((((((0 : Int32) + (q72 (q11 51 x w f) x w f)) + (q72 (q11 53 x w f) x w f)) + (q72 (q11 55 x w f) x w f)) + (q72 (q11 57 x w f) x w f)) + (q72 (q11 59 x w f) x w f))), (0, pm_r 48)] [pm_r 61, .inl ((((((0 : Int32) + (q72 (q11 51 x w f) x w f)) + (q72 (q11 53 x w f) x w f)) + (q72 (q11 55 x w f) x w f)) + (q72 (q11 57 x w f) x w f)) + (q72 (q11 59 x w f) x w f))] (pm_u x w f) := by
  exact (pm_ev_iter [17, 20] 3000 _ _ _ _).trans rfl
theorem s28b_16 {sc : pm_Sc} (d : Nat)  (x : Nat → Nat → Int32) (w : Nat → Nat → Bool) (f : Nat → Nat → Nat) : pm_ev (pm_call pm_Tf sc (d + 1)) sc 1 pm_c28 17 [(2, .inl 5), (1, .inl ((((((0 : Int32) + (q72 (q11 51 x w f) x w f)) + (q72 (q11 53 x w f) x w f)) + (q72 (q11 55 x w f) x w f)) + (q72 (q11 57 x w f) x w f)) + (q72 (q11 59 x w f) x w f))), (0, pm_r 48)] [pm_r 61, .inl ((((((0 : Int32) + (q72 (q11 51 x w f) x w f)) + (q72 (q11 53 x w f) x w f)) + (q72 (q11 55 x w f) x w f)) + (q72 (q11 57 x w f) x w f)) + (q72 (q11 59 x w f) x w f))] (pm_u x w f) = pm_call1 (fun v u => pm_ev (pm_call pm_Tf sc (d + 1)) sc 1 pm_c28 20 [(2, .inl 5), (1, .inl ((((((0 : Int32) + (q72 (q11 51 x w f) x w f)) + (q72 (q11 53 x w f) x w f)) + (q72 (q11 55 x w f) x w f)) + (q72 (q11 57 x w f) x w f)) + (q72 (q11 59 x w f) x w f))), (0, pm_r 48)] (v.toList ++ [.inl ((((((0 : Int32) + (q72 (q11 51 x w f) x w f)) + (q72 (q11 53 x w f) x w f)) + (q72 (q11 55 x w f) x w f)) + (q72 (q11 57 x w f) x w f)) + (q72 (q11 59 x w f) x w f))]) u) none ((pm_call pm_Tf sc (d + 1)) 11 [pm_r 61] (pm_u x w f)) := by
  exact (pm_ev_step _ _ _ _).trans rfl
theorem s28b_17 {sc : pm_Sc} (d : Nat)  (x : Nat → Nat → Int32) (w : Nat → Nat → Bool) (f : Nat → Nat → Nat) : pm_ev (pm_call pm_Tf sc (d + 1)) sc 1 pm_c28 20 [(2, .inl 5), (1, .inl ((((((0 : Int32) + (q72 (q11 51 x w f) x w f)) + (q72 (q11 53 x w f) x w f)) + (q72 (q11 55 x w f) x w f)) + (q72 (q11 57 x w f) x w f)) + (q72 (q11 59 x w f) x w f))), (0, pm_r 48)] [pm_b (q11 61 x w f), .inl ((((((0 : Int32) + (q72 (q11 51 x w f) x w f)) + (q72 (q11 53 x w f) x w f)) + (q72 (q11 55 x w f) x w f)) + (q72 (q11 57 x w f) x w f)) + (q72 (q11 59 x w f) x w f))] (pm_u x w f) = pm_call1 (fun v u => pm_ev (pm_call pm_Tf sc (d + 1)) sc 1 pm_c28 23 [(2, .inl 5), (1, .inl ((((((0 : Int32) + (q72 (q11 51 x w f) x w f)) + (q72 (q11 53 x w f) x w f)) + (q72 (q11 55 x w f) x w f)) + (q72 (q11 57 x w f) x w f)) + (q72 (q11 59 x w f) x w f))), (0, pm_r 48)] (v.toList ++ [.inl ((((((0 : Int32) + (q72 (q11 51 x w f) x w f)) + (q72 (q11 53 x w f) x w f)) + (q72 (q11 55 x w f) x w f)) + (q72 (q11 57 x w f) x w f)) + (q72 (q11 59 x w f) x w f))]) u) none ((pm_call pm_Tf sc (d + 1)) 72 [pm_b (q11 61 x w f)] (pm_u x w f)) := by
  exact (pm_ev_step _ _ _ _).trans rfl
theorem s28b_18 {sc : pm_Sc} (d : Nat)  (x : Nat → Nat → Int32) (w : Nat → Nat → Bool) (f : Nat → Nat → Nat) : pm_ev (pm_call pm_Tf sc (d + 1)) sc 1 pm_c28 23 [(2, .inl 5), (1, .inl ((((((0 : Int32) + (q72 (q11 51 x w f) x w f)) + (q72 (q11 53 x w f) x w f)) + (q72 (q11 55 x w f) x w f)) + (q72 (q11 57 x w f) x w f)) + (q72 (q11 59 x w f) x w f))), (0, pm_r 48)] [.inl (q72 (q11 61 x w f) x w f), .inl ((((((0 : Int32) + (q72 (q11 51 x w f) x w f)) + (q72 (q11 53 x w f) x w f)) + (q72 (q11 55 x w f) x w f)) + (q72 (q11 57 x w f) x w f)) + (q72 (q11 59 x w f) x w f))] (pm_u x w f) = pm_ev (pm_call pm_Tf sc (d + 1)) sc 1 pm_c28 17 [(2, .inl 6), (1, .inl (((((((0 : Int32) + (q72 (q11 51 x w f) x w f)) + (q72 (q11 53 x w f) x w f)) + (q72 (q11 55 x w f) x w f)) + (q72 (q11 57 x w f) x w f)) + (q72 (q11 59 x w f) x w f)) + (q72 (q11 61 x w f) x w f))), (0, pm_r 48)] [pm_r 63, .inl (((((((0 : Int32) + (q72 (q11 51 x w f) x w f)) + (q72 (q11 53 x w f) x w f)) + (q72 (q11 55 x w f) x w f)) + (q72 (q11 57 x w f) x w f)) + (q72 (q11 59 x w f) x w f)) + (q72 (q11 61 x w f) x w f))] (pm_u x w f) := by
  exact (pm_ev_iter [17, 20] 3000 _ _ _ _).trans rfl
theorem s28b_19 {sc : pm_Sc} (d : Nat)  (x : Nat → Nat → Int32) (w : Nat → Nat → Bool) (f : Nat → Nat → Nat) : pm_ev (pm_call pm_Tf sc (d + 1)) sc 1 pm_c28 17 [(2, .inl 6), (1, .inl (((((((0 : Int32) + (q72 (q11 51 x w f) x w f)) + (q72 (q11 53 x w f) x w f)) + (q72 (q11 55 x w f) x w f)) + (q72 (q11 57 x w f) x w f)) + (q72 (q11 59 x w f) x w f)) + (q72 (q11 61 x w f) x w f))), (0, pm_r 48)] [pm_r 63, .inl (((((((0 : Int32) + (q72 (q11 51 x w f) x w f)) + (q72 (q11 53 x w f) x w f)) + (q72 (q11 55 x w f) x w f)) + (q72 (q11 57 x w f) x w f)) + (q72 (q11 59 x w f) x w f)) + (q72 (q11 61 x w f) x w f))] (pm_u x w f) = pm_call1 (fun v u => pm_ev (pm_call pm_Tf sc (d + 1)) sc 1 pm_c28 20 [(2, .inl 6), (1, .inl (((((((0 : Int32) + (q72 (q11 51 x w f) x w f)) + (q72 (q11 53 x w f) x w f)) + (q72 (q11 55 x w f) x w f)) + (q72 (q11 57 x w f) x w f)) + (q72 (q11 59 x w f) x w f)) + (q72 (q11 61 x w f) x w f))), (0, pm_r 48)] (v.toList ++ [.inl (((((((0 : Int32) + (q72 (q11 51 x w f) x w f)) + (q72 (q11 53 x w f) x w f)) + (q72 (q11 55 x w f) x w f)) + (q72 (q11 57 x w f) x w f)) + (q72 (q11 59 x w f) x w f)) + (q72 (q11 61 x w f) x w f))]) u) none ((pm_call pm_Tf sc (d + 1)) 11 [pm_r 63] (pm_u x w f)) := by
  exact (pm_ev_step _ _ _ _).trans rfl
theorem s28b_20 {sc : pm_Sc} (d : Nat)  (x : Nat → Nat → Int32) (w : Nat → Nat → Bool) (f : Nat → Nat → Nat) : pm_ev (pm_call pm_Tf sc (d + 1)) sc 1 pm_c28 20 [(2, .inl 6), (1, .inl (((((((0 : Int32) + (q72 (q11 51 x w f) x w f)) + (q72 (q11 53 x w f) x w f)) + (q72 (q11 55 x w f) x w f)) + (q72 (q11 57 x w f) x w f)) + (q72 (q11 59 x w f) x w f)) + (q72 (q11 61 x w f) x w f))), (0, pm_r 48)] [pm_b (q11 63 x w f), .inl (((((((0 : Int32) + (q72 (q11 51 x w f) x w f)) + (q72 (q11 53 x w f) x w f)) + (q72 (q11 55 x w f) x w f)) + (q72 (q11 57 x w f) x w f)) + (q72 (q11 59 x w f) x w f)) + (q72 (q11 61 x w f) x w f))] (pm_u x w f) = pm_call1 (fun v u => pm_ev (pm_call pm_Tf sc (d + 1)) sc 1 pm_c28 23 [(2, .inl 6), (1, .inl (((((((0 : Int32) + (q72 (q11 51 x w f) x w f)) + (q72 (q11 53 x w f) x w f)) + (q72 (q11 55 x w f) x w f)) + (q72 (q11 57 x w f) x w f)) + (q72 (q11 59 x w f) x w f)) + (q72 (q11 61 x w f) x w f))), (0, pm_r 48)] (v.toList ++ [.inl (((((((0 : Int32) + (q72 (q11 51 x w f) x w f)) + (q72 (q11 53 x w f) x w f)) + (q72 (q11 55 x w f) x w f)) + (q72 (q11 57 x w f) x w f)) + (q72 (q11 59 x w f) x w f)) + (q72 (q11 61 x w f) x w f))]) u) none ((pm_call pm_Tf sc (d + 1)) 72 [pm_b (q11 63 x w f)] (pm_u x w f)) := by
  exact (pm_ev_step _ _ _ _).trans rfl
theorem s28b_21 {sc : pm_Sc} (d : Nat)  (x : Nat → Nat → Int32) (w : Nat → Nat → Bool) (f : Nat → Nat → Nat) : pm_ev (pm_call pm_Tf sc (d + 1)) sc 1 pm_c28 23 [(2, .inl 6), (1, .inl (((((((0 : Int32) + (q72 (q11 51 x w f) x w f)) + (q72 (q11 53 x w f) x w f)) + (q72 (q11 55 x w f) x w f)) + (q72 (q11 57 x w f) x w f)) + (q72 (q11 59 x w f) x w f)) + (q72 (q11 61 x w f) x w f))), (0, pm_r 48)] [.inl (q72 (q11 63 x w f) x w f), .inl (((((((0 : Int32) + (q72 (q11 51 x w f) x w f)) + (q72 (q11 53 x w f) x w f)) + (q72 (q11 55 x w f) x w f)) + (q72 (q11 57 x w f) x w f)) + (q72 (q11 59 x w f) x w f)) + (q72 (q11 61 x w f) x w f))] (pm_u x w f) = pm_ev (pm_call pm_Tf sc (d + 1)) sc 1 pm_c28 17 [(2, .inl 7), (1, .inl ((((((((0 : Int32) + (q72 (q11 51 x w f) x w f)) + (q72 (q11 53 x w f) x w f)) + (q72 (q11 55 x w f) x w f)) + (q72 (q11 57 x w f) x w f)) + (q72 (q11 59 x w f) x w f)) + (q72 (q11 61 x w f) x w f)) + (q72 (q11 63 x w f) x w f))), (0, pm_r 48)] [pm_r 65, .inl ((((((((0 : Int32) + (q72 (q11 51 x w f) x w f)) + (q72 (q11 53 x w f) x w f)) + (q72 (q11 55 x w f) x w f)) + (q72 (q11 57 x w f) x w f)) + (q72 (q11 59 x w f) x w f)) + (q72 (q11 61 x w f) x w f)) + (q72 (q11 63 x w f) x w f))] (pm_u x w f) := by
  exact (pm_ev_iter [17, 20] 3000 _ _ _ _).trans rfl
theorem s28b_22 {sc : pm_Sc} (d : Nat)  (x : Nat → Nat → Int32) (w : Nat → Nat → Bool) (f : Nat → Nat → Nat) : pm_ev (pm_call pm_Tf sc (d + 1)) sc 1 pm_c28 17 [(2, .inl 7), (1, .inl ((((((((0 : Int32) + (q72 (q11 51 x w f) x w f)) + (q72 (q11 53 x w f) x w f)) + (q72 (q11 55 x w f) x w f)) + (q72 (q11 57 x w f) x w f)) + (q72 (q11 59 x w f) x w f)) + (q72 (q11 61 x w f) x w f)) + (q72 (q11 63 x w f) x w f))), (0, pm_r 48)] [pm_r 65, .inl ((((((((0 : Int32) + (q72 (q11 51 x w f) x w f)) + (q72 (q11 53 x w f) x w f)) + (q72 (q11 55 x w f) x w f)) + (q72 (q11 57 x w f) x w f)) + (q72 (q11 59 x w f) x w f)) + (q72 (q11 61 x w f) x w f)) + (q72 (q11 63 x w f) x w f))] (pm_u x w f) = pm_call1 (fun v u => pm_ev (pm_call pm_Tf sc (d + 1)) sc 1 pm_c28 20 [(2, .inl 7), (1, .inl ((((((((0 : Int32) + (q72 (q11 51 x w f) x w f)) + (q72 (q11 53 x w f) x w f)) + (q72 (q11 55 x w f) x w f)) + (q72 (q11 57 x w f) x w f)) + (q72 (q11 59 x w f) x w f)) + (q72 (q11 61 x w f) x w f)) + (q72 (q11 63 x w f) x w f))), (0, pm_r 48)] (v.toList ++ [.inl ((((((((0 : Int32) + (q72 (q11 51 x w f) x w f)) + (q72 (q11 53 x w f) x w f)) + (q72 (q11 55 x w f) x w f)) + (q72 (q11 57 x w f) x w f)) + (q72 (q11 59 x w f) x w f)) + (q72 (q11 61 x w f) x w f)) + (q72 (q11 63 x w f) x w f))]) u) none ((pm_call pm_Tf sc (d + 1)) 11 [pm_r 65] (pm_u x w f)) := by
  exact (pm_ev_step _ _ _ _).trans rfl
theorem s28b_23 {sc : pm_Sc} (d : Nat)  (x : Nat → Nat → Int32) (w : Nat → Nat → Bool) (f : Nat → Nat → Nat) : pm_ev (pm_call pm_Tf sc (d + 1)) sc 1 pm_c28 20 [(2, .inl 7), (1, .inl ((((((((0 : Int32) + (q72 (q11 51 x w f) x w f)) + (q72 (q11 53 x w f) x w f)) + (q72 (q11 55 x w f) x w f)) + (q72 (q11 57 x w f) x w f)) + (q72 (q11 59 x w f) x w f)) + (q72 (q11 61 x w f) x w f)) + (q72 (q11 63 x w f) x w f))), (0, pm_r 48)] [pm_b (q11 65 x w f), .inl ((((((((0 : Int32) + (q72 (q11 51 x w f) x w f)) + (q72 (q11 53 x w f) x w f)) + (q72 (q11 55 x w f) x w f)) + (q72 (q11 57 x w f) x w f)) + (q72 (q11 59 x w f) x w f)) + (q72 (q11 61 x w f) x w f)) + (q72 (q11 63 x w f) x w f))] (pm_u x w f) = pm_call1 (fun v u => pm_ev (pm_call pm_Tf sc (d + 1)) sc 1 pm_c28 23 [(2, .inl 7), (1, .inl ((((((((0 : Int32) + (q72 (q11 51 x w f) x w f)) + (q72 (q11 53 x w f) x w f)) + (q72 (q11 55 x w f) x w f)) + (q72 (q11 57 x w f) x w f)) + (q72 (q11 59 x w f) x w f)) + (q72 (q11 61 x w f) x w f)) + (q72 (q11 63 x w f) x w f))), (0, pm_r 48)] (v.toList ++ [.inl ((((((((0 : Int32) + (q72 (q11 51 x w f) x w f)) + (q72 (q11 53 x w f) x w f)) + (q72 (q11 55 x w f) x w f)) + (q72 (q11 57 x w f) x w f)) + (q72 (q11 59 x w f) x w f)) + (q72 (q11 61 x w f) x w f)) + (q72 (q11 63 x w f) x w f))]) u) none ((pm_call pm_Tf sc (d + 1)) 72 [pm_b (q11 65 x w f)] (pm_u x w f)) := by
  exact (pm_ev_step _ _ _ _).trans rfl
theorem s28b_24 {sc : pm_Sc} (d : Nat)  (x : Nat → Nat → Int32) (w : Nat → Nat → Bool) (f : Nat → Nat → Nat) : pm_ev (pm_call pm_Tf sc (d + 1)) sc 1 pm_c28 23 [(2, .inl 7), (1, .inl ((((((((0 : Int32) + (q72 (q11 51 x w f) x w f)) + (q72 (q11 53 x w f) x w f)) + (q72 (q11 55 x w f) x w f)) + (q72 (q11 57 x w f) x w f)) + (q72 (q11 59 x w f) x w f)) + (q72 (q11 61 x w f) x w f)) + (q72 (q11 63 x w f) x w f))), (0, pm_r 48)] [.inl (q72 (q11 65 x w f) x w f), .inl ((((((((0 : Int32) + (q72 (q11 51 x w f) x w f)) + (q72 (q11 53 x w f) x w f)) + (q72 (q11 55 x w f) x w f)) + (q72 (q11 57 x w f) x w f)) + (q72 (q11 59 x w f) x w f)) + (q72 (q11 61 x w f) x w f)) + (q72 (q11 63 x w f) x w f))] (pm_u x w f) = some (some (.inl (((((((((0 : Int32) + (q72 (q11 51 x w f) x w f)) + (q72 (q11 53 x w f) x w f)) + (q72 (q11 55 x w f) x w f)) + (q72 (q11 57 x w f) x w f)) + (q72 (q11 59 x w f) x w f)) + (q72 (q11 61 x w f) x w f)) + (q72 (q11 63 x w f) x w f)) + (q72 (q11 65 x w f) x w f))), pm_u x w f) := by
  exact (pm_ev_iter [17, 20] 3000 _ _ _ _).trans rfl
def q28b (x : Nat → Nat → Int32) (w : Nat → Nat → Bool) (f : Nat → Nat → Nat) : Int32 := ((((((((0 : Int32) + (q72 (q11 51 x w f) x w f)) + (q72 (q11 53 x w f) x w f)) + (q72 (q11 55 x w f) x w f)) + (q72 (q11 57 x w f) x w f)) + (q72 (q11 59 x w f) x w f)) + (q72 (q11 61 x w f) x w f)) + (q72 (q11 63 x w f) x w f)) + (q72 (q11 65 x w f) x w f)
theorem e28b {sc : pm_Sc} (d : Nat)  (x : Nat → Nat → Int32) (w : Nat → Nat → Bool) (f : Nat → Nat → Nat) : pm_ev (pm_call pm_Tf sc (d + 1)) sc 1 pm_c28 0 [(0, pm_r 48)] [] (pm_u x w f) = some (pm_g1 x w f (q28b x w f)) := (s28b_0 d  x w f).trans (((s28b_1 d  x w f).trans ((pm_call1_of (z11 (d + 0) 51 x w f (by decide))).trans (((s28b_2 d  x w f).trans ((pm_call1_of (z72 (d + 1) (q11 51 x w f) x w f)).trans ((s28b_3 d  x w f).trans (((s28b_4 d  x w f).trans ((pm_call1_of (z11 (d + 0) 53 x w f (by decide))).trans (((s28b_5 d  x w f).trans ((pm_call1_of (z72 (d + 1) (q11 53 x w f) x w f)).trans ((s28b_6 d  x w f).trans (((s28b_7 d  x w f).trans ((pm_call1_of (z11 (d + 0) 55 x w f (by decide))).trans (((s28b_8 d  x w f).trans ((pm_call1_of (z72 (d + 1) (q11 55 x w f) x w f)).trans ((s28b_9 d  x w f).trans (((s28b_10 d  x w f).trans ((pm_call1_of (z11 (d + 0) 57 x w f (by decide))).trans (((s28b_11 d  x w f).trans ((pm_call1_of (z72 (d + 1) (q11 57 x w f) x w f)).trans ((s28b_12 d  x w f).trans (((s28b_13 d  x w f).trans ((pm_call1_of (z11 (d + 0) 59 x w f (by decide))).trans (((s28b_14 d  x w f).trans ((pm_call1_of (z72 (d + 1) (q11 59 x w f) x w f)).trans ((s28b_15 d  x w f).trans (((s28b_16 d  x w f).trans ((pm_call1_of (z11 (d + 0) 61 x w f (by decide))).trans (((s28b_17 d  x w f).trans ((pm_call1_of (z72 (d + 1) (q11 61 x w f) x w f)).trans ((s28b_18 d  x w f).trans (((s28b_19 d  x w f).trans ((pm_call1_of (z11 (d + 0) 63 x w f (by decide))).trans (((s28b_20 d  x w f).trans ((pm_call1_of (z72 (d + 1) (q11 63 x w f) x w f)).trans ((s28b_21 d  x w f).trans (((s28b_22 d  x w f).trans ((pm_call1_of (z11 (d + 0) 65 x w f (by decide))).trans (((s28b_23 d  x w f).trans ((pm_call1_of (z72 (d + 1) (q11 65 x w f) x w f)).trans ((s28b_24 d  x w f).trans (rfl)))))))))))))))))))))))))))))))))))))))))))))))))))))))))
theorem z28b {sc : pm_Sc} (d : Nat) (x : Nat → Nat → Int32) (w : Nat → Nat → Bool) (f : Nat → Nat → Nat) : pm_call pm_Tf sc (d + 2) 28 [pm_r 48] (pm_u x w f) = some (pm_g1 x w f (q28b x w f)) := e28b d x w f
theorem s29b_0 {sc : pm_Sc} (d : Nat)  (x : Nat → Nat → Int32) (w : Nat → Nat → Bool) (f : Nat → Nat → Nat) : pm_ev (pm_call pm_Tf sc (d + 0)) sc 1 pm_c29 0 [(0, pm_r 48)] [] (pm_u x w f) = pm_ev (pm_call pm_Tf sc (d + 0)) sc 1 pm_c29 20 [(2, .inl 0), (1, .inl 0), (0, pm_r 48)] [pm_b (w 51 6), .inl 0] (pm_u x w f) := by
  exact (pm_ev_iter [20] 3000 _ _ _ _).trans rfl
theorem s29b_1 {sc : pm_Sc} (d : Nat)  (x : Nat → Nat → Int32) (w : Nat → Nat → Bool) (f : Nat → Nat → Nat) : pm_ev (pm_call pm_Tf sc (d + 0)) sc 1 pm_c29 20 [(2, .inl 0), (1, .inl 0), (0, pm_r 48)] [pm_b (w 51 6), .inl 0] (pm_u x w f) = pm_call1 (fun v u => pm_ev (pm_call pm_Tf sc (d + 0)) sc 1 pm_c29 23 [(2, .inl 0), (1, .inl 0), (0, pm_r 48)] (v.toList ++ [.inl 0]) u) none ((pm_call pm_Tf sc (d + 0)) 72 [pm_b (w 51 6)] (pm_u x w f)) := by
  exact (pm_ev_step _ _ _ _).trans rfl
theorem s29b_2 {sc : pm_Sc} (d : Nat)  (x : Nat → Nat → Int32) (w : Nat → Nat → Bool) (f : Nat → Nat → Nat) : pm_ev (pm_call pm_Tf sc (d + 0)) sc 1 pm_c29 23 [(2, .inl 0), (1, .inl 0), (0, pm_r 48)] [.inl (q72 (w 51 6) x w f), .inl 0] (pm_u x w f) = pm_ev (pm_call pm_Tf sc (d + 0)) sc 1 pm_c29 20 [(2, .inl 1), (1, .inl ((0 : Int32) ||| ((q72 (w 51 6) x w f) <<< ((0 : Int32) &&& 31)))), (0, pm_r 48)] [pm_b (w 53 6), .inl ((0 : Int32) ||| ((q72 (w 51 6) x w f) <<< ((0 : Int32) &&& 31)))] (pm_u x w f) := by
  exact (pm_ev_iter [20] 3000 _ _ _ _).trans rfl
theorem s29b_3 {sc : pm_Sc} (d : Nat)  (x : Nat → Nat → Int32) (w : Nat → Nat → Bool) (f : Nat → Nat → Nat) : pm_ev (pm_call pm_Tf sc (d + 0)) sc 1 pm_c29 20 [(2, .inl 1), (1, .inl ((0 : Int32) ||| ((q72 (w 51 6) x w f) <<< ((0 : Int32) &&& 31)))), (0, pm_r 48)] [pm_b (w 53 6), .inl ((0 : Int32) ||| ((q72 (w 51 6) x w f) <<< ((0 : Int32) &&& 31)))] (pm_u x w f) = pm_call1 (fun v u => pm_ev (pm_call pm_Tf sc (d + 0)) sc 1 pm_c29 23 [(2, .inl 1), (1, .inl ((0 : Int32) ||| ((q72 (w 51 6) x w f) <<< ((0 : Int32) &&& 31)))), (0, pm_r 48)] (v.toList ++ [.inl ((0 : Int32) ||| ((q72 (w 51 6) x w f) <<< ((0 : Int32) &&& 31)))]) u) none ((pm_call pm_Tf sc (d + 0)) 72 [pm_b (w 53 6)] (pm_u x w f)) := by
  exact (pm_ev_step _ _ _ _).trans rfl
theorem s29b_4 {sc : pm_Sc} (d : Nat)  (x : Nat → Nat → Int32) (w : Nat → Nat → Bool) (f : Nat → Nat → Nat) : pm_ev (pm_call pm_Tf sc (d + 0)) sc 1 pm_c29 23 [(2, .inl 1), (1, .inl ((0 : Int32) ||| ((q72 (w 51 6) x w f) <<< ((0 : Int32) &&& 31)))), (0, pm_r 48)] [.inl (q72 (w 53 6) x w f), .inl ((0 : Int32) ||| ((q72 (w 51 6) x w f) <<< ((0 : Int32) &&& 31)))] (pm_u x w f) = pm_ev (pm_call pm_Tf sc (d + 0)) sc 1 pm_c29 20 [(2, .inl 2), (1, .inl (((0 : Int32) ||| ((q72 (w 51 6) x w f) <<< ((0 : Int32) &&& 31))) ||| ((q72 (w 53 6) x w f) <<< ((1 : Int32) &&& 31)))), (0, pm_r 48)] [pm_b (w 55 6), .inl (((0 : Int32) ||| ((q72 (w 51 6) x w f) <<< ((0 : Int32) &&& 31))) ||| ((q72 (w 53 6) x w f) <<< ((1 : Int32) &&& 31)))] (pm_u x w f) := by
  exact (pm_ev_iter [20] 3000 _ _ _ _).trans rfl
theorem s29b_5 {sc : pm_Sc} (d : Nat)  (x : Nat → Nat → Int32) (w : Nat → Nat → Bool) (f : Nat → Nat → Nat) : pm_ev (pm_call pm_Tf sc (d + 0)) sc 1 pm_c29 20 [(2, .inl 2), (1, .inl (((0 : Int32) ||| ((q72 (w 51 6) x w f) <<< ((0 : Int32) &&& 31))) ||| ((q72 (w 53 6) x w f) <<< ((1 : Int32) &&& 31)))), (0, pm_r 48)] [pm_b (w 55 6), .inl (((0 : Int32) ||| ((q72 (w 51 6) x w f) <<< ((0 : Int32) &&& 31))) ||| ((q72 (w 53 6) x w f) <<< ((1 : Int32) &&& 31)))] (pm_u x w f) = pm_call1 (fun v u => pm_ev (pm_call pm_Tf sc (d + 0)) sc 1 pm_c29 23 [(2, .inl 2), (1, .inl (((0 : Int32) ||| ((q72 (w 51 6) x w f) <<< ((0 : Int32) &&& 31))) ||| ((q72 (w 53 6) x w f) <<< ((1 : Int32) &&& 31)))), (0, pm_r 48)] (v.toList ++ [.inl (((0 : Int32) ||| ((q72 (w 51 6) x w f) <<< ((0 : Int32) &&& 31))) ||| ((q72 (w 53 6) x w f) <<< ((1 : Int32) &&& 31)))]) u) none ((pm_call pm_Tf sc (d + 0)) 72 [pm_b (w 55 6)] (pm_u x w f)) := by
  exact (pm_ev_step _ _ _ _).trans rfl
theorem s29b_6 {sc : pm_Sc} (d : Nat)  (x : Nat → Nat → Int32) (w : Nat → Nat → Bool) (f : Nat → Nat → Nat) : pm_ev (pm_call pm_Tf sc (d + 0)) sc 1 pm_c29 23 [(2, .inl 2), (1, .inl (((0 : Int32) ||| ((q72 (w 51 6) x w f) <<< ((0 : Int32) &&& 31))) ||| ((q72 (w 53 6) x w f) <<< ((1 : Int32) &&& 31)))), (0, pm_r 48)] [.inl (q72 (w 55 6) x w f), .inl (((0 : Int32) ||| ((q72 (w 51 6) x w f) <<< ((0 : Int32) &&& 31))) ||| ((q72 (w 53 6) x w f) <<< ((1 : Int32) &&& 31)))] (pm_u x w f) = pm_ev (pm_call pm_Tf sc (d + 0)) sc 1 pm_c29 20 [(2, .inl 3), (1, .inl ((((0 : Int32) ||| ((q72 (w 51 6) x w f) <<< ((0 : Int32) &&& 31))) ||| ((q72 (w 53 6) x w f) <<< ((1 : Int32) &&& 31))) ||| ((q72 (w 55 6) x w f) <<< ((2 : Int32) &&& 31)))), (0, pm_r 48)] [pm_b (w 57 6), .inl ((((0 : Int32) ||| ((q72 (w 51 6) x w f) <<< ((0 : Int32) &&& 31))) ||| ((q72 (w 53 6) x w f) <<< ((1 : Int32) &&& 31))) ||| ((q72 (w 55 6) x w f) <<< ((2 : Int32) &&& 31)))] (pm_u x w f) := by
  exact (pm_ev_iter [20] 3000 _ _ _ _).trans rfl
theorem s29b_7 {sc : pm_Sc} (d : Nat)  (x : Nat → Nat → Int32) (w : Nat → Nat → Bool) (f : Nat → Nat → Nat) : pm_ev (pm_call pm_Tf sc (d + 0)) sc 1 pm_c29 20 [(2, .inl 3), (1, .inl ((((0 : Int32) ||| ((q72 (w 51 6) x w f) <<< ((0 : Int32) &&& 31))) ||| ((q72 (w 53 6) x w f) <<< ((1 : Int32) &&& 31))) ||| ((q72 (w 55 6) x w f) <<< ((2 : Int32) &&& 31)))), (0, pm_r 48)] [pm_b (w 57 6), .inl ((((0 : Int32) ||| ((q72 (w 51 6) x w f) <<< ((0 : Int32) &&& 31))) ||| ((q72 (w 53 6) x w f) <<< ((1 : Int32) &&& 31))) ||| ((q72 (w 55 6) x w f) <<< ((2 : Int32) &&& 31)))] (pm_u x w f) = pm_call1 (fun v u => pm_ev (pm_call pm_Tf sc (d + 0)) sc 1 pm_c29 23 [(2, .inl 3), (1, .inl ((((0 : Int32) ||| ((q72 (w 51 6) x w f) <<< ((0 : Int32) &&& 31))) ||| ((q72 (w 53 6) x w f) <<< ((1 : Int32) &&& 31))) ||| ((q72 (w 55 6) x w f) <<< ((2 : Int32) &&& 31)))), (0, pm_r 48)] (v.toList ++ [.inl ((((0 : Int32) ||| ((q72 (w 51 6) x w f) <<< ((0 : Int32) &&& 31))) ||| ((q72 (w 53 6) x w f) <<< ((1 : Int32) &&& 31))) ||| ((q72 (w 55 6) x w f) <<< ((2 : Int32) &&& 31)))]) u) none ((pm_call pm_Tf sc (d + 0)) 72 [pm_b (w 57 6)] (pm_u x w f)) := by
  exact (pm_ev_step _ _ _ _).trans rfl
theorem s29b_8 {sc : pm_Sc} (d : Nat)  (x : Nat → Nat → Int32) (w : Nat → Nat → Bool) (f : Nat → Nat → Nat) : pm_ev (pm_call pm_Tf sc (d + 0)) sc 1 pm_c29 23 [(2, .inl 3), (1, .inl ((((0 : Int32) ||| ((q72 (w 51 6) x w f) <<< ((0 : Int32) &&& 31))) ||| ((q72 (w 53 6) x w f) <<< ((1 : Int32) &&& 31))) ||| ((q72 (w 55 6) x w f) <<< ((2 : Int32) &&& 31)))), (0, pm_r 48)] [.inl (q72 (w 57 6) x w f), .inl ((((0 : Int32) ||| ((q72 (w 51 6) x w f) <<< ((0 : Int32) &&& 31))) ||| ((q72 (w 53 6) x w f) <<< ((1 : Int32) &&& 31))) ||| ((q72 (w 55 6) x w f) <<< ((2 : Int32) &&& 31)))] (pm_u x w f) = pm_ev (pm_call pm_Tf sc (d + 0)) sc 1 pm_c29 20 [(2, .inl 4), (1, .inl (((((0 : Int32) ||| ((q72 (w 51 6) x w f) <<< ((0 : Int32) &&& 31))) ||| ((q72 (w 53 6) x w f) <<< ((1 : Int32) &&& 31))) ||| ((q72 (w 55 6) x w f) <<< ((2 : Int32) &&& 31))) ||| ((q72 (w 57 6) x w f) <<< ((3 : Int32) &&& 31)))), (0, pm_r 48)] [pm_b (w 59 6), .inl (((((0 : Int32) ||| ((q72 (w 51 6) x w f) <<< ((0 : Int32) &&& 31))) ||| ((q72 (w 53 6) x w f) <<< ((1 : Int32) &&& 31))) ||| ((q72 (w 55 6) x w f) <<< ((2 : Int32) &&& 31))) ||| ((q72 (w 57 6) x w f) <<< ((3 : Int32) &&& 31)))] (pm_u x w f) := by
  exact (pm_ev_iter [20] 3000 _ _ _ _).trans rfl
theorem s29b_9 {sc : pm_Sc} (d : Nat)  (x : Nat → Nat → Int32) (w : Nat → Nat → Bool) (f : Nat → Nat → Nat) : pm_ev (pm_call pm_Tf sc (d + 0)) sc 1 pm_c29 20 [(2, .inl 4), (1, .inl (((((0 : Int32) ||| ((q72 (w 51 6) x w f) <<< ((0 : Int32) &&& 31))) ||| ((q72 (w 53 6) x w f) <<< ((1 : Int32) &&& 31))) ||| ((q72 (w 55 6) x w f) <<< ((2 : Int32) &&& 31))) ||| ((q72 (w 57 6) x w f) <<< ((3 : Int32) &&& 31)))), (0, pm_r 48)] [pm_b (w 59 6), .inl (((((0 : Int32) ||| ((q72 (w 51 6) x w f) <<< ((0 : Int32) &&& 31))) ||| ((q72 (w 53 6) x w f) <<< ((1 : Int32) &&& 31))) ||| ((q72 (w 55 6) x w f) <<< ((2 : Int32) &&& 31))) ||| ((q72 (w 57 6) x w f) <<< ((3 : Int32) &&& 31)))] (pm_u x w f) = pm_call1 (fun v u => pm_ev (pm_call pm_Tf sc (d + 0)) sc 1 pm_c29 23 [(2, .inl 4), (1, .inl (((((0 : Int32) ||| ((q72 (w 51 6) x w f) <<< ((0 : Int32) &&& 31))) ||| ((q72 (w 53 6) x w f) <<< ((1 : Int32) &&& 31))) ||| ((q72 (w 55 6) x w f) <<< ((2 : Int32) &&& 31))) ||| ((q72 (w 57 6) x w f) <<< ((3 : Int32) &&& 31)))), (0, pm_r 48)] (v.toList ++ [.inl (((((0 : Int32) ||| ((q72 (w 51 6) x w f) <<< ((0 : Int32) &&& 31))) ||| ((q72 (w 53 6) x w f) <<< ((1 : Int32) &&& 31))) ||| ((q72 (w 55 6) x w f) <<< ((2 : Int32) &&& 31))) ||| ((q72 (w 57 6) x w f) <<< ((3 : Int32) &&& 31)))]) u) none ((pm_call pm_Tf sc (d + 0)) 72 [pm_b (w 59 6)] (pm_u x w f)) := by
  exact (pm_ev_step _ _ _ _).trans rfl
theorem s29b_10 {sc : pm_Sc} (d : Nat)  (x : Nat → Nat → Int32) (w : Nat → Nat → Bool) (f : Nat → Nat → Nat) : pm_ev (pm_call pm_Tf sc (d + 0)) sc 1 pm_c29 23 [(2, .inl 4), (1, .inl (((((0 : Int32) ||| ((q72 (w 51 6) x w f) <<< ((0 : Int32) &&& 31))) ||| ((q72 (w 53 6) x w f) <<< ((1 : Int32) &&& 31))) ||| ((q72 (w 55 6) x w f) <<< ((2 : Int32) &&& 31))) ||| ((q72 (w 57 6) x w f) <<< ((3 : Int32) &&& 31)))), (0, pm_r 48)] [.inl (q72 (w 59 6) x w f), .inl (((((0 : Int32) ||| ((q72 (w 51 6) x w f) <<< ((0 : Int32) &&& 31))) ||| ((q72 (w 53 6) x w f) <<< ((1 : Int32) &&& 31))) ||| ((q72 (w 55 6) x w f) <<< ((2 : Int32) &&& 31))) ||| ((q72 (w 57 6) x w f) <<< ((3 : Int32) &&& 31)))] (pm_u x w f) = pm_ev (pm_call pm_Tf sc (d + 0)) sc 1 pm_c29 20 [(2, .inl 5), (1, .inl ((((((0 : Int32) ||| ((q72 (w 51 6) x w f) <<< ((0 : Int32) &&& 31))) ||| ((q72 (w 53 6) x w f) <<< ((1 : Int32) &&& 31))) ||| ((q72 (w 55 6) x w f) <<< ((2 : Int32) &&& 31))) ||| ((q72 (w 57 6) x w f) <<< ((3 : Int32) &&& 31))) ||| ((q72 (w 59 6) x w f) <<< ((4 : Int32) &&& 31)))), (0, pm_r 48)] [pm_b (w 61 6), .inl ((((((0 : Int32) ||| ((q72 (w 51 6) x w f) <<< ((0 : Int32) &&& 31))) ||| ((q72 (w 53 6) x w f) <<< ((1 : Int32) &&& 31))) ||| ((q72 (w 55 6) x w f) <<< ((2 : Int32) &&& 31))) ||| ((q72 (w 57 6) x w f) <<< ((3 : Int32) &&& 31))) ||| ((q72 (w 59 6) x w f) <<< ((4 : Int32) &&& 31)))] (pm_u x w f) := by
  exact (pm_ev_iter [20] 3000 _ _ _ _).trans rfl
theorem s29b_11 {sc : pm_Sc} (d : Nat)  (x : Nat → Nat → Int32) (w : Nat → Nat → Bool) (f : Nat → Nat → Nat) : pm_ev (pm_call pm_Tf sc (d + 0)) sc 1 pm_c29 20 [(2, .inl 5), (1, .inl ((((((0 : Int32) ||| ((q72 (w 51 6) x w f) <<< ((0 : Int32) &&& 31))) ||| ((q72 (w 53 6) x w f) <<< ((1 : Int32) &&& 31))) ||| ((q72 (w 55 6) x w f) <<< ((2 : Int32) &&& 31))) ||| ((q72 (w 57 6) x w f) <<< ((3 : Int32) &&& 31))) ||| ((q72 (w 59 6) x w f) <<< ((4 : Int32) &&& 31)))), (0, pm_r 48)] [pm_b (w 61 6), .inl ((((((0 : Int32) ||| ((q72 (w 51 6) x w f) <<< ((0 : Int32) &&& 31))) ||| ((q72 (w 53 6) x w f) <<< ((1 : Int32) &&& 31))) ||| ((q72 (w 55 6) x w f) <<< ((2 : Int32) &&& 31))) ||| ((q72 (w 57 6) x w f) <<< ((3 : Int32) &&& 31))) ||| ((q72 (w 59 6) x w f) <<< ((4 : Int32) &&& 31)))] (pm_u x w f) = pm_call1 (fun v u => pm_ev (pm_call pm_Tf sc (d + 0)) sc 1 pm_c29 23 [(2, .inl 5), (1, .inl ((((((0 : Int32) ||| ((q72 (w 51 6) x w f) <<< ((0 : Int32) &&& 31))) ||| ((q72 (w 53 6) x w f) <<< ((1 : Int32) &&& 31))) ||| ((q72 (w 55 6) x w f) <<< ((2 : Int32) &&& 31))) ||| ((q72 (w 57 6) x w f) <<< ((3 : Int32) &&& 31))) ||| ((q72 (w 59 6) x w f) <<< ((4 : Int32) &&& 31)))), (0, pm_r 48)] (v.toList ++ [.inl ((((((0 : Int32) ||| ((q72 (w 51 6) x w f) <<< ((0 : Int32) &&& 31))) ||| ((q72 (w 53 6) x w f) <<< ((1 : Int32) &&& 31))) ||| ((q72 (w 55 6) x w f) <<< ((2 : Int32) &&& 31))) ||| ((q72 (w 57 6) x w f) <<< ((3 : Int32) &&& 31))) ||| ((q72 (w 59 6) x w f) <<< ((4 : Int32) &&& 31)))]) u) none ((pm_call pm_Tf sc (d + 0)) 72 [pm_b (w 61 6)] (pm_u x w f)) := by
  exact (pm_ev_step _ _ _ _).trans rfl
theorem s29b_12 {sc : pm_Sc} (d : Nat)  (x : Nat → Nat → Int32) (w : Nat → Nat → Bool) (f : Nat → Nat → Nat) : pm_ev (pm_call pm_Tf sc (d + 0)) sc 1 pm_c29 23 [(2, .inl 5), (1, .inl ((((((0 : Int32) ||| ((q72 (w 51 6) x w f) <<< ((0 : Int32) &&& 31))) ||| ((q72 (w 53 6) x w f) <<< ((1 : Int32) &&& 31))) ||| ((q72 (w 55 6) x w f) <<< ((2 : Int32) &&& 31))) ||| ((q72 (w 57 6) x w f) <<< ((3 : Int32) &&& 31))) ||| ((q72 (w 59 6) x w f) <<< ((4 : Int32) &&& 31)))), (0, pm_r 48)] [.inl (q72 (w 61 6) x w f), .inl ((((((0 : Int32) ||| ((q72 (w 51 6) x w f) <<< ((0 : Int32) &&& 31))) ||| ((q72 (w 53 6) x w f) <<< ((1 : Int32) &&& 31))) ||| ((q72 (w 55 6) x w f) <<< ((2 : Int32) &&& 31))) ||| ((q72 (w 57 6) x w f) <<< ((3 : Int32) &&& 31))) ||| ((q72 (w 59 6) x w f) <<< ((4 : Int32) &&& 31)))] (pm_u x w f) = pm_ev (pm_call pm_Tf sc (d + 0)) sc 1 pm_c29 20 [(2, .inl 6), (1, .inl (((((((0 : Int32) ||| ((q72 (w 51 6) x w f) <<< ((0 : Int32) &&& 31))) ||| ((q72 (w 53 6) x w f) <<< ((1 : Int32) &&& 31))) ||| ((q72 (w 55 6) x w f) <<< ((2 : Int32) &&& 31))) ||| ((q72 (w 57 6) x w f) <<< ((3 : Int32) &&& 31))) ||| ((q72 (w 59 6) x w f) <<< ((4 : Int32) &&& 31))) ||| ((q72 (w 61 6) x w f) <<< ((5 : Int32) &&& 31)))), (0, pm_r 48)] [pm_b (w 63 6), .inl (((((((0 : Int32) ||| ((q72 (w 51 6) x w f) <<< ((0 : Int32) &&& 31))) ||| ((q72 (w 53 6) x w f) <<< ((1 : Int32) &&& 31))) ||| ((q72 (w 55 6) x w f) <<< ((2 : Int32) &&& 31))) ||| ((q72 (w 57 6) x w f) <<< ((3 : Int32) &&& 31))) ||| ((q72 (w 59 6) x w f) <<< ((4 : Int32) &&& 31))) ||| ((q72 (w 61 6) x w f) <<< ((5 : Int32) &&& 31)))] (pm_u x w f) := by
  exact (pm_ev_iter [20] 3000 _ _ _ _).trans rfl
theorem s29b_13 {sc : pm_Sc} (d : Nat)  (x : Nat → Nat → Int32) (w : Nat → Nat → Bool) (f : Nat → Nat → Nat) : pm_ev (pm_call pm_Tf sc (d + 0)) sc 1 pm_c29 20 [(2, .inl 6), (1, .inl (((((((0 : Int32) ||| ((q72 (w 51 6) x w f) <<< ((0 : Int32) &&& 31))) ||| ((q72 (w 53 6) x w f) <<< ((1 : Int32) &&& 31))) ||| ((q72 (w 55 6) x w f) <<< ((2 : Int32) &&& 31))) ||| ((q72 (w 57 6) x w f) <<< ((3 : Int32) &&& 31))) ||| ((q72 (w 59 6) x w f) <<< ((4 : Int32) &&& 31))) ||| ((q72 (w 61 6) x w f) <<< ((5 : Int32) &&& 31)))), (0, pm_r 48)] [pm_b (w 63 6), .inl (((((((0 : Int32) ||| ((q72 (w 51 6) x w f) <<< ((0 : Int32) &&& 31))) ||| ((q72 (w 53 6) x w f) <<< ((1 : Int32) &&& 31))) ||| ((q72 (w 55 6) x w f) <<< ((2 : Int32) &&& 31))) ||| ((q72 (w 57 6) x w f) <<< ((3 : Int32) &&& 31))) ||| ((q72 (w 59 6) x w f) <<< ((4 : Int32) &&& 31))) ||| ((q72 (w 61 6) x w f) <<< ((5 : Int32) &&& 31)))] (pm_u x w f) = pm_call1 (fun v u => pm_ev (pm_call pm_Tf sc (d + 0)) sc 1 pm_c29 23 [(2, .inl 6), (1, .inl (((((((0 : Int32) ||| ((q72 (w 51 6) x w f) <<< ((0 : Int32) &&& 31))) ||| ((q72 (w 53 6) x w f) <<< ((1 : Int32) &&& 31))) ||| ((q72 (w 55 6) x w f) <<< ((2 : Int32) &&& 31))) ||| ((q72 (w 57 6) x w f) <<< ((3 : Int32) &&& 31))) ||| ((q72 (w 59 6) x w f) <<< ((4 : Int32) &&& 31))) ||| ((q72 (w 61 6) x w f) <<< ((5 : Int32) &&& 31)))), (0, pm_r 48)] (v.toList ++ [.inl (((((((0 : Int32) ||| ((q72 (w 51 6) x w f) <<< ((0 : Int32) &&& 31))) ||| ((q72 (w 53 6) x w f) <<< ((1 : Int32) &&& 31))) ||| ((q72 (w 55 6) x w f) <<< ((2 : Int32) &&& 31))) ||| ((q72 (w 57 6) x w f) <<< ((3 : Int32) &&& 31))) ||| ((q72 (w 59 6) x w f) <<< ((4 : Int32) &&& 31))) ||| ((q72 (w 61 6) x w f) <<< ((5 : Int32) &&& 31)))]) u) none ((pm_call pm_Tf sc (d + 0)) 72 [pm_b (w 63 6)] (pm_u x w f)) := by
  exact (pm_ev_step _ _ _ _).trans rfl
theorem s29b_14 {sc : pm_Sc} (d : Nat)  (x : Nat → Nat → Int32) (w : Nat → Nat → Bool) (f : Nat → Nat → Nat) : pm_ev (pm_call pm_Tf sc (d + 0)) sc 1 pm_c29 23 [(2, .inl 6), (1, .inl (((((((0 : Int32) ||| ((q72 (w 51 6) x w f) <<< ((0 : Int32) &&& 31))) ||| ((q72 (w 53 6) x w f) <<< ((1 : Int32) &&& 31))) ||| ((q72 (w 55 6) x w f) <<< ((2 : Int32) &&& 31))) ||| ((q72 (w 57 6) x w f) <<< ((3 : Int32) &&& 31))) ||| ((q72 (w 59 6) x w f) <<< ((4 : Int32) &&& 31))) ||| ((q72 (w 61 6) x w f) <<< ((5 : Int32) &&& 31)))), (0, pm_r 48)] [.inl (q72 (w 63 6) x w f), .inl (((((((0 : Int32) ||| ((q72 (w 51 6) x w f) <<< ((0 : Int32) &&& 31))) ||| ((q72 (w 53 6) x w f) <<< ((1 : Int32) &&& 31))) ||| ((q72 (w 55 6) x w f) <<< ((2 : Int32) &&& 31))) ||| ((q72 (w 57 6) x w f) <<< ((3 : Int32) &&& 31))) ||| ((q72 (w 59 6) x w f) <<< ((4 : Int32) &&& 31))) ||| ((q72 (w 61 6) x w f) <<< ((5 : Int32) &&& 31)))] (pm_u x w f) = pm_ev (pm_call pm_Tf sc (d + 0)) sc 1 pm_c29 20 [(2, .inl 7), (1, .inl ((((((((0 : Int32) ||| ((q72 (w 51 6) x w f) <<< ((0 : Int32) &&& 31))) ||| ((q72 (w 53 6) x w f) <<< ((1 : Int32) &&& 31))) ||| ((q72 (w 55 6) x w f) <<< ((2 : Int32) &&& 31))) ||| ((q72 (w 57 6) x w f) <<< ((3 : Int32) &&& 31))) ||| ((q72 (w 59 6) x w f) <<< ((4 : Int32) &&& 31))) ||| ((q72 (w 61 6) x w f) <<< ((5 : Int32) &&& 31))) ||| ((q72 (w 63 6) x w f) <<< ((6 : Int32) &&& 31)))), (0, pm_r 48)] [pm_b (w 65 6), .inl ((((((((0 : Int32) ||| ((q72 (w 51 6) x w f) <<< ((0 : Int32) &&& 31))) ||| ((q72 (w 53 6) x w f) <<< ((1 : Int32) &&& 31))) ||| ((q72 (w 55 6) x w f) <<< ((2 : Int32) &&& 31))) ||| ((q72 (w 57 6) x w f) <<< ((3 : Int32) &&& 31))) ||| ((q72 (w 59 6) x w f) <<< ((4 : Int32) &&& 31))) ||| ((q72 (w 61 6) x w f) <<< ((5 : Int32) &&& 31))) ||| ((q72 (w 63 6) x w f) <<< ((6 : Int32) &&& 31)))] (pm_u x w f) := by
  exact (pm_ev_iter [20] 3000 _ _ _ _).trans rfl
theorem s29b_15 {sc : pm_Sc} (d : Nat)  (x : Nat → Nat → Int32) (w : Nat → Nat → Bool) (f : Nat → Nat → Nat) : pm_ev (pm_call pm_Tf sc (d + 0)) sc 1 pm_c29 20 [(2, .inl 7), (1, .inl ((((((((0 : Int32) ||| ((q72 (w 51 6) x w f) <<< ((0 : Int32) &&& 31))) ||| ((q72 (w 53 6) x w f) <<< ((1 : Int32) &&& 31))) ||| ((q72 (w 55 6) x w f) <<< ((2 : Int32) &&& 31))) ||| ((q72 (w 57 6) x w f) <<< ((3 : Int32) &&& 31))) ||| ((q72 (w 59 6) x w f) <<< ((4 : Int32) &&& 31))) ||| ((q72 (w 61 6) x w f) <<< ((5 : Int32) &&& 31))) ||| ((q72 (w 63 6) x w f) <<< ((6 : Int32) &&& 31)))), (0, pm_r 48)] [pm_b (w 65 6), .inl ((((((((0 : Int32) ||| ((q72 (w 51 6) x w f) <<< ((0 : Int32) &&& 31))) ||| ((q72 (w 53 6) x w f) <<< ((1 : Int32) &&& 31))) ||| ((q72 (w 55 6) x w f) <<< ((2 : Int32) &&& 31))) ||| ((q72 (w 57 6) x w f) <<< ((3 : Int32) &&& 31))) ||| ((q72 (w 59 6) x w f) <<< ((4 : Int32) &&& 31))) ||| ((q72 (w 61 6) x w f) <<< ((5 : Int32) &&& 31))) ||| ((q72 (w 63 6) x w f) <<< ((6 : Int32) &&& 31)))] (pm_u x w f) = pm_call1 (fun v u => pm_ev (pm_call pm_Tf sc (d + 0)) sc 1 pm_c29 23 [(2, .inl 7), (1, .inl ((((((((0 : Int32) ||| ((q72 (w 51 6) x w f) <<< ((0 : Int32) &&& 31))) ||| ((q72 (w 53 6) x w f) <<< ((1 : Int32) &&& 31))) ||| ((q72 (w 55 6) x w f) <<< ((2 : Int32) &&& 31))) ||| ((q72 (w 57 6) x w f) <<< ((3 : Int32) &&& 31))) ||| ((q72 (w 59 6) x w f) <<< ((4 : Int32) &&& 31))) ||| ((q72 (w 61 6) x w f) <<< ((5 : Int32) &&& 31))) ||| ((q72 (w 63 6) x w f) <<< ((6 : Int32) &&& 31)))), (0, pm_r 48)] (v.toList ++ [.inl ((((((((0 : Int32) ||| ((q72 (w 51 6) x w f) <<< ((0 : Int32) &&& 31))) ||| ((q72 (w 53 6) x w f) <<< ((1 : Int32) &&& 31))) ||| ((q72 (w 55 6) x w f) <<< ((2 : Int32) &&& 31))) ||| ((q72 (w 57 6) x w f) <<< ((3 : Int32) &&& 31))) ||| ((q72 (w 59 6) x w f) <<< ((4 : Int32) &&& 31))) ||| ((q72 (w 61 6) x w f) <<< ((5 : Int32) &&& 31))) ||| ((q72 (w 63 6) x w f) <<< ((6 : Int32) &&& 31)))]) u) none ((pm_call pm_Tf sc (d + 0)) 72 [pm_b (w 65 6)] (pm_u x w f)) := by
  exact (pm_ev_step _ _ _ _).trans rfl
theorem s29b_16 {sc : pm_Sc} (d : Nat)  (x : Nat → Nat → Int32) (w : Nat → Nat → Bool) (f : Nat → Nat → Nat) : pm_ev (pm_call pm_Tf sc (d + 0)) sc 1 pm_c29 23 [(2, .inl 7), (1, .inl ((((((((0 : Int32) ||| ((q72 (w 51 6) x w f) <<< ((0 : Int32) &&& 31))) ||| ((q72 (w 53 6) x w f) <<< ((1 : Int32) &&& 31))) ||| ((q72 (w 55 6) x w f) <<< ((2 : Int32) &&& 31))) ||| ((q72 (w 57 6) x w f) <<< ((3 : Int32) &&& 31))) ||| ((q72 (w 59 6) x w f) <<< ((4 : Int32) &&& 31))) ||| ((q72 (w 61 6) x w f) <<< ((5 : Int32) &&& 31))) ||| ((q72 (w 63 6) x w f) <<< ((6 : Int32) &&& 31)))), (0, pm_r 48)] [.inl (q72 (w 65 6) x w f), .inl ((((((((0 : Int32) ||| ((q72 (w 51 6) x w f) <<< ((0 : Int32) &&& 31))) ||| ((q72 (w 53 6) x w f) <<< ((1 : Int32) &&& 31))) ||| ((q72 (w 55 6) x w f) <<< ((2 : Int32) &&& 31))) ||| ((q72 (w 57 6) x w f) <<< ((3 : Int32) &&& 31))) ||| ((q72 (w 59 6) x w f) <<< ((4 : Int32) &&& 31))) ||| ((q72 (w 61 6) x w f) <<< ((5 : Int32) &&& 31))) ||| ((q72 (w 63 6) x w f) <<< ((6 : Int32) &&& 31)))] (pm_u x w f) = some (some (.inl (((((((((0 : Int32) ||| ((q72 (w 51 6) x w f) <<< ((0 : Int32) &&& 31))) ||| ((q72 (w 53 6) x w f) <<< ((1 : Int32) &&& 31))) ||| ((q72 (w 55 6) x w f) <<< ((2 : Int32) &&& 31))) ||| ((q72 (w 57 6) x w f) <<< ((3 : Int32) &&& 31))) ||| ((q72 (w 59 6) x w f) <<< ((4 : Int32) &&& 31))) ||| ((q72 (w 61 6) x w f) <<< ((5 : Int32) &&& 31))) ||| ((q72 (w 63 6) x w f) <<< ((6 : Int32) &&& 31))) ||| ((q72 (w 65 6) x w f) <<< ((7 : Int32) &&& 31)))), pm_u x w f) := by
  exact (pm_ev_iter [20] 3000 _ _ _ _).trans rfl
def q29b (x : Nat → Nat → Int32) (w : Nat → Nat → Bool) (f : Nat → Nat → Nat) : Int32 := ((((((((0 : Int32) ||| ((q72 (w 51 6) x w f) <<< ((0 : Int32) &&& 31))) ||| ((q72 (w 53 6) x w f) <<< ((1 : Int32) &&& 31))) ||| ((q72 (w 55 6) x w f) <<< ((2 : Int32) &&& 31))) ||| ((q72 (w 57 6) x w f) <<< ((3 : Int32) &&& 31))) ||| ((q72 (w 59 6) x w f) <<< ((4 : Int32) &&& 31))) ||| ((q72 (w 61 6) x w f) <<< ((5 : Int32) &&& 31))) ||| ((q72 (w 63 6) x w f) <<< ((6 : Int32) &&& 31))) ||| ((q72 (w 65 6) x w f) <<< ((7 : Int32) &&& 31))
theorem e29b {sc : pm_Sc} (d : Nat)  (x : Nat → Nat → Int32) (w : Nat → Nat → Bool) (f : Nat → Nat → Nat) : pm_ev (pm_call pm_Tf sc (d + 0)) sc 1 pm_c29 0 [(0, pm_r 48)] [] (pm_u x w f) = some (pm_g1 x w f (q29b x w f)) := (s29b_0 d  x w f).trans (((s29b_1 d  x w f).trans ((pm_call1_of (z72 (d + 0) (w 51 6) x w f)).trans ((s29b_2 d  x w f).trans (((s29b_3 d  x w f).trans ((pm_call1_of (z72 (d + 0) (w 53 6) x w f)).trans ((s29b_4 d  x w f).trans (((s29b_5 d  x w f).trans ((pm_call1_of (z72 (d + 0) (w 55 6) x w f)).trans ((s29b_6 d  x w f).trans (((s29b_7 d  x w f).trans ((pm_call1_of (z72 (d + 0) (w 57 6) x w f)).trans ((s29b_8 d  x w f).trans (((s29b_9 d  x w f).trans ((pm_call1_of (z72 (d + 0) (w 59 6) x w f)).trans ((s29b_10 d  x w f).trans (((s29b_11 d  x w f).trans ((pm_call1_of (z72 (d + 0) (w 61 6) x w f)).trans ((s29b_12 d  x w f).trans (((s29b_13 d  x w f).trans ((pm_call1_of (z72 (d + 0) (w 63 6) x w f)).trans ((s29b_14 d  x w f).trans (((s29b_15 d  x w f).trans ((pm_call1_of (z72 (d + 0) (w 65 6) x w f)).trans ((s29b_16 d  x w f).trans (rfl)))))))))))))))))))))))))))))))))
theorem z29b {sc : pm_Sc} (d : Nat) (x : Nat → Nat → Int32) (w : Nat → Nat → Bool) (f : Nat → Nat → Nat) : pm_call pm_Tf sc (d + 1) 29 [pm_r 48] (pm_u x w f) = some (pm_g1 x w f (q29b x w f)) := e29b d x w f
theorem s38a_0 {sc : pm_Sc} (d : Nat)  (x : Nat → Nat → Int32) (w : Nat → Nat → Bool) (f : Nat → Nat → Nat) : pm_ev (pm_call pm_Tf sc (d + 0)) sc 2 pm_c38 0 [(0, pm_r 29)] [] (pm_u x w f) = (if (x 29 12) < 20 then some (some (pm_b false), pm_u x w f) else pm_ev (pm_call pm_Tf sc (d + 0)) sc 2 pm_c38 24 [(0, pm_r 29)] [.inl 250, .inl (-250), .inl ((x 29 9) + (x 29 11))] (pm_u x w f)) := by
  exact (pm_ev_iter [24] 3000 _ _ _ _).trans rfl
theorem s38a_1 {sc : pm_Sc} (d : Nat)  (x : Nat → Nat → Int32) (w : Nat → Nat → Bool) (f : Nat → Nat → Nat) : pm_ev (pm_call pm_Tf sc (d + 0)) sc 2 pm_c38 24 [(0, pm_r 29)] [.inl 250, .inl (-250), .inl ((x 29 9) + (x 29 11))] (pm_u x w f) = pm_call1 (fun v u => pm_ev (pm_call pm_Tf sc (d + 0)) sc 2 pm_c38 27 [(0, pm_r 29)] (v.toList ++ []) u) none ((pm_call pm_Tf sc (d + 0)) 71 [.inl ((x 29 9) + (x 29 11)), .inl (-250), .inl 250] (pm_u x w f)) := by
  exact (pm_ev_step _ _ _ _).trans rfl
theorem s38a_2 {sc : pm_Sc} (d : Nat)  (x : Nat → Nat → Int32) (w : Nat → Nat → Bool) (f : Nat → Nat → Nat) : pm_ev (pm_call pm_Tf sc (d + 0)) sc 2 pm_c38 27 [(0, pm_r 29)] [pm_b (q71 ((x 29 9) + (x 29 11)) (-250) 250 x w f)] (pm_u x w f) = (if (q71 ((x 29 9) + (x 29 11)) (-250) 250 x w f) = true then some (some (pm_b true), pm_u x w f) else some (some (pm_b false), pm_u x w f)) := by
  exact (pm_ev_iter [24] 3000 _ _ _ _).trans rfl
def q38a (x : Nat → Nat → Int32) (w : Nat → Nat → Bool) (f : Nat → Nat → Nat) : Bool := (if (x 29 12) < 20 then false else (if (q71 ((x 29 9) + (x 29 11)) (-250) 250 x w f) = true then true else false))
theorem e38a {sc : pm_Sc} (d : Nat)  (x : Nat → Nat → Int32) (w : Nat → Nat → Bool) (f : Nat → Nat → Nat) : pm_ev (pm_call pm_Tf sc (d + 0)) sc 2 pm_c38 0 [(0, pm_r 29)] [] (pm_u x w f) = some (pm_g2 x w f (q38a x w f)) := (s38a_0 d  x w f).trans (pm_iteG (g := (fun t => some (pm_g2 x w f t))) (fun _ => rfl) (fun _ => ((s38a_1 d  x w f).trans ((pm_call1_of (z71 (d + 0) ((x 29 9) + (x 29 11)) (-250) 250 x w f)).trans ((s38a_2 d  x w f).trans (pm_iteG (g := (fun t => some (pm_g2 x w f t))) (fun _ => rfl) (fun _ => rfl)))))))
theorem z38a {sc : pm_Sc} (d : Nat) (x : Nat → Nat → Int32) (w : Nat → Nat → Bool) (f : Nat → Nat → Nat) : pm_call pm_Tf sc (d + 1) 38 [pm_r 29] (pm_u x w f) = some (pm_g2 x w f (q38a x w f)) := e38a d x w f
theorem s39a_0 {sc : pm_Sc} (d : Nat)  (x : Nat → Nat → Int32) (w : Nat → Nat → Bool) (f : Nat → Nat → Nat) : pm_ev (pm_call pm_Tf sc (d + 0)) sc 2 pm_c39 0 [(0, pm_r 29)] [] (pm_u x w f) = (if (x 29 10) = 0 then pm_ev (pm_call pm_Tf sc (d + 0)) sc 2 pm_c39 17 [(0, pm_r 29)] [.inl 350, .inl (-350), .inl (x 29 9)] (pm_u x w f) else some (some (pm_b false), pm_u x w f)) := by
  exact (pm_ev_iter [17] 3000 _ _ _ _).trans rfl
theorem s39a_1 {sc : pm_Sc} (d : Nat)  (x : Nat → Nat → Int32) (w : Nat → Nat → Bool) (f : Nat → Nat → Nat) : pm_ev (pm_call pm_Tf sc (d + 0)) sc 2 pm_c39 17 [(0, pm_r 29)] [.inl 350, .inl (-350), .inl (x 29 9)] (pm_u x w f) = pm_call1 (fun v u => pm_ev (pm_call pm_Tf sc (d + 0)) sc 2 pm_c39 20 [(0, pm_r 29)] (v.toList ++ []) u) none ((pm_call pm_Tf sc (d + 0)) 71 [.inl (x 29 9), .inl (-350), .inl 350] (pm_u x w f)) := by
  exact (pm_ev_step _ _ _ _).trans rfl
theorem s39a_2 {sc : pm_Sc} (d : Nat)  (x : Nat → Nat → Int32) (w : Nat → Nat → Bool) (f : Nat → Nat → Nat) : pm_ev (pm_call pm_Tf sc (d + 0)) sc 2 pm_c39 20 [(0, pm_r 29)] [pm_b (q71 (x 29 9) (-350) 350 x w f)] (pm_u x w f) = (if (q71 (x 29 9) (-350) 350 x w f) = true then some (some (pm_b true), pm_u x w f) else some (some (pm_b false), pm_u x w f)) := by
  exact (pm_ev_iter [17] 3000 _ _ _ _).trans rfl
def q39a (x : Nat → Nat → Int32) (w : Nat → Nat → Bool) (f : Nat → Nat → Nat) : Bool := (if (x 29 10) = 0 then (if (q71 (x 29 9) (-350) 350 x w f) = true then true else false) else false)
theorem e39a {sc : pm_Sc} (d : Nat)  (x : Nat → Nat → Int32) (w : Nat → Nat → Bool) (f : Nat → Nat → Nat) : pm_ev (pm_call pm_Tf sc (d + 0)) sc 2 pm_c39 0 [(0, pm_r 29)] [] (pm_u x w f) = some (pm_g2 x w f (q39a x w f)) := (s39a_0 d  x w f).trans (pm_iteG (g := (fun t => some (pm_g2 x w f t))) (fun _ => ((s39a_1 d  x w f).trans ((pm_call1_of (z71 (d + 0) (x 29 9) (-350) 350 x w f)).trans ((s39a_2 d  x w f).trans (pm_iteG (g := (fun t => some (pm_g2 x w f t))) (fun _ => rfl) (fun _ => rfl)))))) (fun _ => rfl))
theorem z39a {sc : pm_Sc} (d : Nat) (x : Nat → Nat → Int32) (w : Nat → Nat → Bool) (f : Nat → Nat → Nat) : pm_call pm_Tf sc (d + 1) 39 [pm_r 29] (pm_u x w f) = some (pm_g2 x w f (q39a x w f)) := e39a d x w f
theorem s33a_0 {c : Nat → List pm_V → pm_S → Option pm_Rs} {sc : pm_Sc}  (x : Nat → Nat → Int32) (w : Nat → Nat → Bool) (f : Nat → Nat → Nat) : pm_ev c sc 0 pm_c33 0 [(0, pm_r 29)] [] (pm_u x w f) = (if (x 29 10) = 0 then some (none, pm_u (pm_up x 29 12 ((x 29 12) + (1 : Int32))) w f) else some (none, pm_u (pm_up x 29 12 0) w f)) := by
  exact (pm_ev_iter [] 3000 _ _ _ _).trans rfl
def q33a (x : Nat → Nat → Int32) (w : Nat → Nat → Bool) (f : Nat → Nat → Nat) : (Nat → Nat → Int32) × (Nat → Nat → Bool) := (if (x 29 10) = 0 then (pm_up x 29 12 ((x 29 12) + (1 : Int32)), w) else (pm_up x 29 12 0, w))
theorem e33a {c : Nat → List pm_V → pm_S → Option pm_Rs} {sc : pm_Sc}  (x : Nat → Nat → Int32) (w : Nat → Nat → Bool) (f : Nat → Nat → Nat) : pm_ev c sc 0 pm_c33 0 [(0, pm_r 29)] [] (pm_u x w f) = some (pm_h0 f (q33a x w f)) := (s33a_0  x w f).trans (pm_iteG (g := (fun t => some (pm_h0 f t))) (fun _ => rfl) (fun _ => rfl))
theorem z33a {sc : pm_Sc} (d : Nat) (x : Nat → Nat → Int32) (w : Nat → Nat → Bool) (f : Nat → Nat → Nat) : pm_call pm_Tf sc (d + 0) 33 [pm_r 29] (pm_u x w f) = some (pm_h0 f (q33a x w f)) := pm_call_0 (fun _ => e33a x w f) d
theorem s34a_0 {sc : pm_Sc} (d : Nat)  (x : Nat → Nat → Int32) (w : Nat → Nat → Bool) (f : Nat → Nat → Nat) : pm_ev (pm_call pm_Tf sc (d + 1)) sc 2 pm_c34 0 [(0, pm_r 29)] [] (pm_u x w f) = (if (w 29 13) = true then pm_ev (pm_call pm_Tf sc (d + 1)) sc 2 pm_c34 8 [(0, pm_r 29)] [pm_r 29] (pm_u x w f) else some (some (pm_b false), pm_u x w f)) := by
  exact (pm_ev_iter [8, 15] 3000 _ _ _ _).trans rfl
theorem s34a_1 {sc : pm_Sc} (d : Nat)  (x : Nat → Nat → Int32) (w : Nat → Nat → Bool) (f : Nat → Nat → Nat) : pm_ev (pm_call pm_Tf sc (d + 1)) sc 2 pm_c34 8 [(0, pm_r 29)] [pm_r 29] (pm_u x w f) = pm_call1 (fun v u => pm_ev (pm_call pm_Tf sc (d + 1)) sc 2 pm_c34 11 [(0, pm_r 29)] (v.toList ++ []) u) none ((pm_call pm_Tf sc (d + 1)) 38 [pm_r 29] (pm_u x w f)) := by
  exact (pm_ev_step _ _ _ _).trans rfl
theorem s34a_2 {sc : pm_Sc} (d : Nat)  (x : Nat → Nat → Int32) (w : Nat → Nat → Bool) (f : Nat → Nat → Nat) : pm_ev (pm_call pm_Tf sc (d + 1)) sc 2 pm_c34 11 [(0, pm_r 29)] [pm_b (q38a x w f)] (pm_u x w f) = (if (q38a x w f) = true then pm_ev (pm_call pm_Tf sc (d + 1)) sc 2 pm_c34 15 [(0, pm_r 29)] [pm_r 29] (pm_u x w f) else some (some (pm_b false), pm_u x w f)) := by
  exact (pm_ev_iter [8, 15] 3000 _ _ _ _).trans rfl
theorem s34a_3 {sc : pm_Sc} (d : Nat)  (x : Nat → Nat → Int32) (w : Nat → Nat → Bool) (f : Nat → Nat → Nat) : pm_ev (pm_call pm_Tf sc (d + 1)) sc 2 pm_c34 15 [(0, pm_r 29)] [pm_r 29] (pm_u x w f) = pm_call1 (fun v u => pm_ev (pm_call pm_Tf sc (d + 1)) sc 2 pm_c34 18 [(0, pm_r 29)] (v.toList ++ []) u) none ((pm_call pm_Tf sc (d + 1)) 26 [pm_r 29] (pm_u x w f)) := by
  exact (pm_ev_step _ _ _ _).trans rfl
theorem s34a_4 {sc : pm_Sc} (d : Nat)  (x : Nat → Nat → Int32) (w : Nat → Nat → Bool) (f : Nat → Nat → Nat) : pm_ev (pm_call pm_Tf sc (d + 1)) sc 2 pm_c34 18 [(0, pm_r 29)] [pm_b (q26a x w f)] (pm_u x w f) = (if (q26a x w f) = true then (if (x 31 2) = 1 then some (some (pm_b true), pm_u x w f) else some (some (pm_b false), pm_u x w f)) else some (some (pm_b false), pm_u x w f)) := by
  exact (pm_ev_iter [8, 15] 3000 _ _ _ _).trans rfl
def q34a (x : Nat → Nat → Int32) (w : Nat → Nat → Bool) (f : Nat → Nat → Nat) : Bool := (if (w 29 13) = true then (if (q38a x w f) = true then (if (q26a x w f) = true then (if (x 31 2) = 1 then true else false) else false) else false) else false)
theorem e34a {sc : pm_Sc} (d : Nat)  (x : Nat → Nat → Int32) (w : Nat → Nat → Bool) (f : Nat → Nat → Nat) : pm_ev (pm_call pm_Tf sc (d + 1)) sc 2 pm_c34 0 [(0, pm_r 29)] [] (pm_u x w f) = some (pm_g2 x w f (q34a x w f)) := (s34a_0 d  x w f).trans (pm_iteG (g := (fun t => some (pm_g2 x w f t))) (fun _ => ((s34a_1 d  x w f).trans ((pm_call1_of (z38a (d + 0) x w f)).trans ((s34a_2 d  x w f).trans (pm_iteG (g := (fun t => some (pm_g2 x w f t))) (fun _ => ((s34a_3 d  x w f).trans ((pm_call1_of (z26a (d + 0) x w f)).trans ((s34a_4 d  x w f).trans (pm_iteG (g := (fun t => some (pm_g2 x w f t))) (fun _ => pm_iteG (g := (fun t => some (pm_g2 x w f t))) (fun _ => rfl) (fun _ => rfl)) (fun _ => rfl)))))) (fun _ => rfl)))))) (fun _ => rfl))
theorem z34a {sc : pm_Sc} (d : Nat) (x : Nat → Nat → Int32) (w : Nat → Nat → Bool) (f : Nat → Nat → Nat) : pm_call pm_Tf sc (d + 2) 34 [pm_r 29] (pm_u x w f) = some (pm_g2 x w f (q34a x w f)) := e34a d x w f
theorem s35a_0 {sc : pm_Sc} (d : Nat)  (x : Nat → Nat → Int32) (w : Nat → Nat → Bool) (f : Nat → Nat → Nat) : pm_ev (pm_call pm_Tf sc (d + 1)) sc 2 pm_c35 0 [(0, pm_r 29)] [] (pm_u x w f) = (if (w 29 13) = true then pm_ev (pm_call pm_Tf sc (d + 1)) sc 2 pm_c35 8 [(0, pm_r 29)] [pm_r 29] (pm_u x w f) else some (some (pm_b true), pm_u x w f)) := by
  exact (pm_ev_iter [8, 15] 3000 _ _ _ _).trans rfl
theorem s35a_1 {sc : pm_Sc} (d : Nat)  (x : Nat → Nat → Int32) (w : Nat → Nat → Bool) (f : Nat → Nat → Nat) : pm_ev (pm_call pm_Tf sc (d + 1)) sc 2 pm_c35 8 [(0, pm_r 29)] [pm_r 29] (pm_u x w f) = pm_call1 (fun v u => pm_ev (pm_call pm_Tf sc (d + 1)) sc 2 pm_c35 11 [(0, pm_r 29)] (v.toList ++ []) u) none ((pm_call pm_Tf sc (d + 1)) 38 [pm_r 29] (pm_u x w f)) := by
  exact (pm_ev_step _ _ _ _).trans rfl
theorem s35a_2 {sc : pm_Sc} (d : Nat)  (x : Nat → Nat → Int32) (w : Nat → Nat → Bool) (f : Nat → Nat → Nat) : pm_ev (pm_call pm_Tf sc (d + 1)) sc 2 pm_c35 11 [(0, pm_r 29)] [pm_b (q38a x w f)] (pm_u x w f) = (if (q38a x w f) = true then pm_ev (pm_call pm_Tf sc (d + 1)) sc 2 pm_c35 15 [(0, pm_r 29)] [pm_r 29] (pm_u x w f) else some (some (pm_b true), pm_u x w f)) := by
  exact (pm_ev_iter [8, 15] 3000 _ _ _ _).trans rfl
theorem s35a_3 {sc : pm_Sc} (d : Nat)  (x : Nat → Nat → Int32) (w : Nat → Nat → Bool) (f : Nat → Nat → Nat) : pm_ev (pm_call pm_Tf sc (d + 1)) sc 2 pm_c35 15 [(0, pm_r 29)] [pm_r 29] (pm_u x w f) = pm_call1 (fun v u => pm_ev (pm_call pm_Tf sc (d + 1)) sc 2 pm_c35 18 [(0, pm_r 29)] (v.toList ++ []) u) none ((pm_call pm_Tf sc (d + 1)) 27 [pm_r 29] (pm_u x w f)) := by
  exact (pm_ev_step _ _ _ _).trans rfl
theorem s35a_4 {sc : pm_Sc} (d : Nat)  (x : Nat → Nat → Int32) (w : Nat → Nat → Bool) (f : Nat → Nat → Nat) : pm_ev (pm_call pm_Tf sc (d + 1)) sc 2 pm_c35 18 [(0, pm_r 29)] [pm_b (q27a x w f)] (pm_u x w f) = (if (q27a x w f) = true then some (some (pm_b true), pm_u x w f) else some (some (pm_b false), pm_u x w f)) := by
  exact (pm_ev_iter [8, 15] 3000 _ _ _ _).trans rfl
def q35a (x : Nat → Nat → Int32) (w : Nat → Nat → Bool) (f : Nat → Nat → Nat) : Bool := (if (w 29 13) = true then (if (q38a x w f) = true then (if (q27a x w f) = true then true else false) else true) else true)
theorem e35a {sc : pm_Sc} (d : Nat)  (x : Nat → Nat → Int32) (w : Nat → Nat → Bool) (f : Nat → Nat → Nat) : pm_ev (pm_call pm_Tf sc (d + 1)) sc 2 pm_c35 0 [(0, pm_r 29)] [] (pm_u x w f) = some (pm_g2 x w f (q35a x w f)) := (s35a_0 d  x w f).trans (pm_iteG (g := (fun t => some (pm_g2 x w f t))) (fun _ => ((s35a_1 d  x w f).trans ((pm_call1_of (z38a (d + 0) x w f)).trans ((s35a_2 d  x w f).trans (pm_iteG (g := (fun t => some (pm_g2 x w f t))) (fun _ => ((s35a_3 d  x w f).trans ((pm_call1_of (z27a (d + 0) x w f)).trans ((s35a_4 d  x w f).trans (pm_iteG (g := (fun t => some (pm_g2 x w f t))) (fun _ => rfl) (fun _ => rfl)))))) (fun _ => rfl)))))) (fun _ => rfl))
theorem z35a {sc : pm_Sc} (d : Nat) (x : Nat → Nat → Int32) (w : Nat → Nat → Bool) (f : Nat → Nat → Nat) : pm_call pm_Tf sc (d + 2) 35 [pm_r 29] (pm_u x w f) = some (pm_g2 x w f (q35a x w f)) := e35a d x w f
theorem s36a_0 {sc : pm_Sc} (d : Nat)  (x : Nat → Nat → Int32) (w : Nat → Nat → Bool) (f : Nat → Nat → Nat) : pm_ev (pm_call pm_Tf sc (d + 1)) sc 2 pm_c36 0 [(0, pm_r 29)] [] (pm_u x w f) = pm_ev (pm_call pm_Tf sc (d + 1)) sc 2 pm_c36 1 [(0, pm_r 29)] [pm_r 29] (pm_u x w f) := by
  exact (pm_ev_iter [1] 3000 _ _ _ _).trans rfl
theorem s36a_1 {sc : pm_Sc} (d : Nat)  (x : Nat → Nat → Int32) (w : Nat → Nat → Bool) (f : Nat → Nat → Nat) : pm_ev (pm_call pm_Tf sc (d + 1)) sc 2 pm_c36 1 [(0, pm_r 29)] [pm_r 29] (pm_u x w f) = pm_call1 (fun v u => pm_ev (pm_call pm_Tf sc (d + 1)) sc 2 pm_c36 4 [(0, pm_r 29)] (v.toList ++ []) u) none ((pm_call pm_Tf sc (d + 1)) 38 [pm_r 29] (pm_u x w f)) := by
  exact (pm_ev_step _ _ _ _).trans rfl
theorem s36a_2 {sc : pm_Sc} (d : Nat)  (x : Nat → Nat → Int32) (w : Nat → Nat → Bool) (f : Nat → Nat → Nat) : pm_ev (pm_call pm_Tf sc (d + 1)) sc 2 pm_c36 4 [(0, pm_r 29)] [pm_b (q38a x w f)] (pm_u x w f) = some (some (pm_b (q38a x w f)), pm_u x w f) := by
  exact (pm_ev_iter [1] 3000 _ _ _ _).trans rfl
def q36a (x : Nat → Nat → Int32) (w : Nat → Nat → Bool) (f : Nat → Nat → Nat) : Bool := (q38a x w f)
theorem e36a {sc : pm_Sc} (d : Nat)  (x : Nat → Nat → Int32) (w : Nat → Nat → Bool) (f : Nat → Nat → Nat) : pm_ev (pm_call pm_Tf sc (d + 1)) sc 2 pm_c36 0 [(0, pm_r 29)] [] (pm_u x w f) = some (pm_g2 x w f (q36a x w f)) := (s36a_0 d  x w f).trans (((s36a_1 d  x w f).trans ((pm_call1_of (z38a (d + 0) x w f)).trans ((s36a_2 d  x w f).trans (rfl)))))
theorem z36a {sc : pm_Sc} (d : Nat) (x : Nat → Nat → Int32) (w : Nat → Nat → Bool) (f : Nat → Nat → Nat) : pm_call pm_Tf sc (d + 2) 36 [pm_r 29] (pm_u x w f) = some (pm_g2 x w f (q36a x w f)) := e36a d x w f
theorem s37a_0 {c : Nat → List pm_V → pm_S → Option pm_Rs} {sc : pm_Sc}  (x : Nat → Nat → Int32) (w : Nat → Nat → Bool) (f : Nat → Nat → Nat) : pm_ev c sc 2 pm_c37 0 [(0, pm_r 29)] [] (pm_u x w f) = some (some (pm_b (w 29 13)), pm_u x w f) := by
  exact (pm_ev_iter [] 3000 _ _ _ _).trans rfl
def q37a (x : Nat → Nat → Int32) (w : Nat → Nat → Bool) (f : Nat → Nat → Nat) : Bool := w 29 13
theorem e37a {c : Nat → List pm_V → pm_S → Option pm_Rs} {sc : pm_Sc}  (x : Nat → Nat → Int32) (w : Nat → Nat → Bool) (f : Nat → Nat → Nat) : pm_ev c sc 2 pm_c37 0 [(0, pm_r 29)] [] (pm_u x w f) = some (pm_g2 x w f (q37a x w f)) := (s37a_0  x w f).trans (rfl)
theorem z37a {sc : pm_Sc} (d : Nat) (x : Nat → Nat → Int32) (w : Nat → Nat → Bool) (f : Nat → Nat → Nat) : pm_call pm_Tf sc (d + 0) 37 [pm_r 29] (pm_u x w f) = some (pm_g2 x w f (q37a x w f)) := pm_call_0 (fun _ => e37a x w f) d
theorem s41b_0 {c : Nat → List pm_V → pm_S → Option pm_Rs} {sc : pm_Sc}  (x : Nat → Nat → Int32) (w : Nat → Nat → Bool) (f : Nat → Nat → Nat) : pm_ev c sc 0 pm_c41 0 [(0, pm_r 48)] [] (pm_u x w f) = some (none, pm_u x w f) := by
  exact (pm_ev_iter [] 3000 _ _ _ _).trans rfl
def q41b (x : Nat → Nat → Int32) (w : Nat → Nat → Bool) (f : Nat → Nat → Nat) : Unit := ()
theorem e41b {c : Nat → List pm_V → pm_S → Option pm_Rs} {sc : pm_Sc}  (x : Nat → Nat → Int32) (w : Nat → Nat → Bool) (f : Nat → Nat → Nat) : pm_ev c sc 0 pm_c41 0 [(0, pm_r 48)] [] (pm_u x w f) = some (pm_g0 x w f (q41b x w f)) := (s41b_0  x w f).trans (rfl)
theorem z41b {sc : pm_Sc} (d : Nat) (x : Nat → Nat → Int32) (w : Nat → Nat → Bool) (f : Nat → Nat → Nat) : pm_call pm_Tf sc (d + 0) 41 [pm_r 48] (pm_u x w f) = some (pm_g0 x w f (q41b x w f)) := pm_call_0 (fun _ => e41b x w f) d
theorem s42b_0 {sc : pm_Sc} (d : Nat)  (x : Nat → Nat → Int32) (w : Nat → Nat → Bool) (f : Nat → Nat → Nat) : pm_ev (pm_call pm_Tf sc (d + 1)) sc 2 pm_c42 0 [(0, pm_r 48)] [] (pm_u x w f) = pm_ev (pm_call pm_Tf sc (d + 1)) sc 2 pm_c42 1 [(0, pm_r 48)] [pm_r 48] (pm_u x w f) := by
  exact (pm_ev_iter [1] 3000 _ _ _ _).trans rfl
theorem s42b_1 {sc : pm_Sc} (d : Nat)  (x : Nat → Nat → Int32) (w : Nat → Nat → Bool) (f : Nat → Nat → Nat) : pm_ev (pm_call pm_Tf sc (d + 1)) sc 2 pm_c42 1 [(0, pm_r 48)] [pm_r 48] (pm_u x w f) = pm_call1 (fun v u => pm_ev (pm_call pm_Tf sc (d + 1)) sc 2 pm_c42 4 [(0, pm_r 48)] (v.toList ++ []) u) none ((pm_call pm_Tf sc (d + 1)) 26 [pm_r 48] (pm_u x w f)) := by
  exact (pm_ev_step _ _ _ _).trans rfl
theorem s42b_2 {sc : pm_Sc} (d : Nat)  (x : Nat → Nat → Int32) (w : Nat → Nat → Bool) (f : Nat → Nat → Nat) : pm_ev (pm_call pm_Tf sc (d + 1)) sc 2 pm_c42 4 [(0, pm_r 48)] [pm_b (q26b x w f)] (pm_u x w f) = (if (q26b x w f) = true then (if (w 50 4) = true then (if (w 50 5) = true then some (some (pm_b true), pm_u x w f) else some (some (pm_b false), pm_u x w f)) else some (some (pm_b false), pm_u x w f)) else some (some (pm_b false), pm_u x w f)) := by
  exact (pm_ev_iter [1] 3000 _ _ _ _).trans rfl
def q42b (x : Nat → Nat → Int32) (w : Nat → Nat → Bool) (f : Nat → Nat → Nat) : Bool := (if (q26b x w f) = true then (if (w 50 4) = true then (if (w 50 5) = true then true else false) else false) else false)
theorem e42b {sc : pm_Sc} (d : Nat)  (x : Nat → Nat → Int32) (w : Nat → Nat → Bool) (f : Nat → Nat → Nat) : pm_ev (pm_call pm_Tf sc (d + 1)) sc 2 pm_c42 0 [(0, pm_r 48)] [] (pm_u x w f) = some (pm_g2 x w f (q42b x w f)) := (s42b_0 d  x w f).trans (((s42b_1 d  x w f).trans ((pm_call1_of (z26b (d + 0) x w f)).trans ((s42b_2 d  x w f).trans (pm_iteG (g := (fun t => some (pm_g2 x w f t))) (fun _ => pm_iteG (g := (fun t => some (pm_g2 x w f t))) (fun _ => pm_iteG (g := (fun t => some (pm_g2 x w f t))) (fun _ => rfl) (fun _ => rfl)) (fun _ => rfl)) (fun _ => rfl))))))
theorem z42b {sc : pm_Sc} (d : Nat) (x : Nat → Nat → Int32) (w : Nat → Nat → Bool) (f : Nat → Nat → Nat) : pm_call pm_Tf sc (d + 2) 42 [pm_r 48] (pm_u x w f) = some (pm_g2 x w f (q42b x w f)) := e42b d x w f
theorem s43b_0 {sc : pm_Sc} (d : Nat)  (x : Nat → Nat → Int32) (w : Nat → Nat → Bool) (f : Nat → Nat → Nat) : pm_ev (pm_call pm_Tf sc (d + 1)) sc 2 pm_c43 0 [(0, pm_r 48)] [] (pm_u x w f) = pm_ev (pm_call pm_Tf sc (d + 1)) sc 2 pm_c43 1 [(0, pm_r 48)] [pm_r 48] (pm_u x w f) := by
  exact (pm_ev_iter [1] 3000 _ _ _ _).trans rfl
theorem s43b_1 {sc : pm_Sc} (d : Nat)  (x : Nat → Nat → Int32) (w : Nat → Nat → Bool) (f : Nat → Nat → Nat) : pm_ev (pm_call pm_Tf sc (d + 1)) sc 2 pm_c43 1 [(0, pm_r 48)] [pm_r 48] (pm_u x w f) = pm_call1 (fun v u => pm_ev (pm_call pm_Tf sc (d + 1)) sc 2 pm_c43 4 [(0, pm_r 48)] (v.toList ++ []) u) none ((pm_call pm_Tf sc (d + 1)) 27 [pm_r 48] (pm_u x w f)) := by
  exact (pm_ev_step _ _ _ _).trans rfl
theorem s43b_2 {sc : pm_Sc} (d : Nat)  (x : Nat → Nat → Int32) (w : Nat → Nat → Bool) (f : Nat → Nat → Nat) : pm_ev (pm_call pm_Tf sc (d + 1)) sc 2 pm_c43 4 [(0, pm_r 48)] [pm_b (q27b x w f)] (pm_u x w f) = (if (q27b x w f) = true then some (some (pm_b true), pm_u x w f) else (if (w 50 4) = true then (if (w 50 5) = true then some (some (pm_b false), pm_u x w f) else some (some (pm_b true), pm_u x w f)) else some (some (pm_b true), pm_u x w f))) := by
  exact (pm_ev_iter [1] 3000 _ _ _ _).trans rfl
def q43b (x : Nat → Nat → Int32) (w : Nat → Nat → Bool) (f : Nat → Nat → Nat) : Bool := (if (q27b x w f) = true then true else (if (w 50 4) = true then (if (w 50 5) = true then false else true) else true))
theorem e43b {sc : pm_Sc} (d : Nat)  (x : Nat → Nat → Int32) (w : Nat → Nat → Bool) (f : Nat → Nat → Nat) : pm_ev (pm_call pm_Tf sc (d + 1)) sc 2 pm_c43 0 [(0, pm_r 48)] [] (pm_u x w f) = some (pm_g2 x w f (q43b x w f)) := (s43b_0 d  x w f).trans (((s43b_1 d  x w f).trans ((pm_call1_of (z27b (d + 0) x w f)).trans ((s43b_2 d  x w f).trans (pm_iteG (g := (fun t => some (pm_g2 x w f t))) (fun _ => rfl) (fun _ => pm_iteG (g := (fun t => some (pm_g2 x w f t))) (fun _ => pm_iteG (g := (fun t => some (pm_g2 x w f t))) (fun _ => rfl) (fun _ => rfl)) (fun _ => rfl)))))))
theorem z43b {sc : pm_Sc} (d : Nat) (x : Nat → Nat → Int32) (w : Nat → Nat → Bool) (f : Nat → Nat → Nat) : pm_call pm_Tf sc (d + 2) 43 [pm_r 48] (pm_u x w f) = some (pm_g2 x w f (q43b x w f)) := e43b d x w f
theorem s44b_0 {sc : pm_Sc} (d : Nat)  (x : Nat → Nat → Int32) (w : Nat → Nat → Bool) (f : Nat → Nat → Nat) : pm_ev (pm_call pm_Tf sc (d + 2)) sc 2 pm_c44 0 [(0, pm_r 48)] [] (pm_u x w f) = pm_ev (pm_call pm_Tf sc (d + 2)) sc 2 pm_c44 1 [(0, pm_r 48)] [pm_r 48] (pm_u x w f) := by
  exact (pm_ev_iter [1] 3000 _ _ _ _).trans rfl
theorem s44b_1 {sc : pm_Sc} (d : Nat)  (x : Nat → Nat → Int32) (w : Nat → Nat → Bool) (f : Nat → Nat → Nat) : pm_ev (pm_call pm_Tf sc (d + 2)) sc 2 pm_c44 1 [(0, pm_r 48)] [pm_r 48] (pm_u x w f) = pm_call1 (fun v u => pm_ev (pm_call pm_Tf sc (d + 2)) sc 2 pm_c44 4 [(0, pm_r 48)] (v.toList ++ []) u) none ((pm_call pm_Tf sc (d + 2)) 28 [pm_r 48] (pm_u x w f)) := by
  exact (pm_ev_step _ _ _ _).trans rfl
theorem s44b_2 {sc : pm_Sc} (d : Nat)  (x : Nat → Nat → Int32) (w : Nat → Nat → Bool) (f : Nat → Nat → Nat) : pm_ev (pm_call pm_Tf sc (d + 2)) sc 2 pm_c44 4 [(0, pm_r 48)] [.inl (q28b x w f)] (pm_u x w f) = (if (q28b x w f) = 8 then some (some (pm_b true), pm_u x w f) else some (some (pm_b false), pm_u x w f)) := by
  exact (pm_ev_iter [1] 3000 _ _ _ _).trans rfl
def q44b (x : Nat → Nat → Int32) (w : Nat → Nat → Bool) (f : Nat → Nat → Nat) : Bool := (if (q28b x w f) = 8 then true else false)
theorem e44b {sc : pm_Sc} (d : Nat)  (x : Nat → Nat → Int32) (w : Nat → Nat → Bool) (f : Nat → Nat → Nat) : pm_ev (pm_call pm_Tf sc (d + 2)) sc 2 pm_c44 0 [(0, pm_r 48)] [] (pm_u x w f) = some (pm_g2 x w f (q44b x w f)) := (s44b_0 d  x w f).trans (((s44b_1 d  x w f).trans ((pm_call1_of (z28b (d + 0) x w f)).trans ((s44b_2 d  x w f).trans (pm_iteG (g := (fun t => some (pm_g2 x w f t))) (fun _ => rfl) (fun _ => rfl))))))
theorem z44b {sc : pm_Sc} (d : Nat) (x : Nat → Nat → Int32) (w : Nat → Nat → Bool) (f : Nat → Nat → Nat) : pm_call pm_Tf sc (d + 3) 44 [pm_r 48] (pm_u x w f) = some (pm_g2 x w f (q44b x w f)) := e44b d x w f
theorem s45b_0 {c : Nat → List pm_V → pm_S → Option pm_Rs} {sc : pm_Sc}  (x : Nat → Nat → Int32) (w : Nat → Nat → Bool) (f : Nat → Nat → Nat) : pm_ev c sc 2 pm_c45 0 [(0, pm_r 48)] [] (pm_u x w f) = some (some (pm_b false), pm_u x w f) := by
  exact (pm_ev_iter [] 3000 _ _ _ _).trans rfl
def q45b (x : Nat → Nat → Int32) (w : Nat → Nat → Bool) (f : Nat → Nat → Nat) : Bool := false
theorem e45b {c : Nat → List pm_V → pm_S → Option pm_Rs} {sc : pm_Sc}  (x : Nat → Nat → Int32) (w : Nat → Nat → Bool) (f : Nat → Nat → Nat) : pm_ev c sc 2 pm_c45 0 [(0, pm_r 48)] [] (pm_u x w f) = some (pm_g2 x w f (q45b x w f)) := (s45b_0  x w f).trans (rfl)
theorem z45b {sc : pm_Sc} (d : Nat) (x : Nat → Nat → Int32) (w : Nat → Nat → Bool) (f : Nat → Nat → Nat) : pm_call pm_Tf sc (d + 0) 45 [pm_r 48] (pm_u x w f) = some (pm_g2 x w f (q45b x w f)) := pm_call_0 (fun _ => e45b x w f) d
theorem s22a_0 {sc : pm_Sc} (d : Nat)  (x : Nat → Nat → Int32) (w : Nat → Nat → Bool) (f : Nat → Nat → Nat) : pm_ev (pm_call pm_Tf sc (d + 2)) sc 0 pm_c22 0 [(0, pm_r 29)] [] (pm_u x w f) = (if (x 29 5) = 0 then pm_ev (pm_call pm_Tf sc (d + 2)) sc 0 pm_c22 8 [(0, pm_r 29)] [pm_r 29] (pm_u x w f) else (if (x 29 5) = 1 then pm_ev (pm_call pm_Tf sc (d + 2)) sc 0 pm_c22 49 [(0, pm_r 29)] [pm_r 29] (pm_u x w f) else (if ((x 29 4) - (x 29 6)) < 150 then some (none, pm_u x w f) else some (none, pm_u (pm_up x 29 5 0) w f)))) := by
  exact (pm_ev_iter [8, 49] 3000 _ _ _ _).trans rfl
theorem s22a_1 {sc : pm_Sc} (d : Nat)  (x : Nat → Nat → Int32) (w : Nat → Nat → Bool) (f : Nat → Nat → Nat) : pm_ev (pm_call pm_Tf sc (d + 2)) sc 0 pm_c22 8 [(0, pm_r 29)] [pm_r 29] (pm_u x w f) = pm_call1 (fun v u => pm_ev (pm_call pm_Tf sc (d + 2)) sc 0 pm_c22 11 [(0, pm_r 29)] (v.toList ++ []) u) none ((pm_call pm_Tf sc (d + 2)) 34 [pm_r 29] (pm_u x w f)) := by
  exact (pm_ev_step _ _ _ _).trans rfl
theorem s22a_2 {sc : pm_Sc} (d : Nat)  (x : Nat → Nat → Int32) (w : Nat → Nat → Bool) (f : Nat → Nat → Nat) : pm_ev (pm_call pm_Tf sc (d + 2)) sc 0 pm_c22 11 [(0, pm_r 29)] [pm_b (q34a x w f)] (pm_u x w f) = (if (q34a x w f) = true then some (none, pm_u (pm_up (pm_up (pm_up x 29 5 1) 29 7 (x 29 4)) 29 8 ((x 29 8) + (1 : Int32))) w f) else some (none, pm_u x w f)) := by
  exact (pm_ev_iter [8, 49] 3000 _ _ _ _).trans rfl
theorem s22a_3 {sc : pm_Sc} (d : Nat)  (x : Nat → Nat → Int32) (w : Nat → Nat → Bool) (f : Nat → Nat → Nat) : pm_ev (pm_call pm_Tf sc (d + 2)) sc 0 pm_c22 49 [(0, pm_r 29)] [pm_r 29] (pm_u x w f) = pm_call1 (fun v u => pm_ev (pm_call pm_Tf sc (d + 2)) sc 0 pm_c22 52 [(0, pm_r 29)] (v.toList ++ []) u) none ((pm_call pm_Tf sc (d + 2)) 35 [pm_r 29] (pm_u x w f)) := by
  exact (pm_ev_step _ _ _ _).trans rfl
theorem s22a_4 {sc : pm_Sc} (d : Nat)  (x : Nat → Nat → Int32) (w : Nat → Nat → Bool) (f : Nat → Nat → Nat) : pm_ev (pm_call pm_Tf sc (d + 2)) sc 0 pm_c22 52 [(0, pm_r 29)] [pm_b (q35a x w f)] (pm_u x w f) = (if (q35a x w f) = true then some (none, pm_u (pm_up (pm_up x 29 5 2) 29 6 (x 29 4)) w f) else some (none, pm_u x w f)) := by
  exact (pm_ev_iter [8, 49] 3000 _ _ _ _).trans rfl
def q22a (x : Nat → Nat → Int32) (w : Nat → Nat → Bool) (f : Nat → Nat → Nat) : (Nat → Nat → Int32) × (Nat → Nat → Bool) := (if (x 29 5) = 0 then (if (q34a x w f) = true then (pm_up (pm_up (pm_up x 29 5 1) 29 7 (x 29 4)) 29 8 ((x 29 8) + (1 : Int32)), w) else (x, w)) else (if (x 29 5) = 1 then (if (q35a x w f) = true then (pm_up (pm_up x 29 5 2) 29 6 (x 29 4), w) else (x, w)) else (if ((x 29 4) - (x 29 6)) < 150 then (x, w) else (pm_up x 29 5 0, w))))
theorem e22a {sc : pm_Sc} (d : Nat)  (x : Nat → Nat → Int32) (w : Nat → Nat → Bool) (f : Nat → Nat → Nat) : pm_ev (pm_call pm_Tf sc (d + 2)) sc 0 pm_c22 0 [(0, pm_r 29)] [] (pm_u x w f) = some (pm_h0 f (q22a x w f)) := (s22a_0 d  x w f).trans (pm_iteG (g := (fun t => some (pm_h0 f t))) (fun _ => ((s22a_1 d  x w f).trans ((pm_call1_of (z34a (d + 0) x w f)).trans ((s22a_2 d  x w f).trans (pm_iteG (g := (fun t => some (pm_h0 f t))) (fun _ => rfl) (fun _ => rfl)))))) (fun _ => pm_iteG (g := (fun t => some (pm_h0 f t))) (fun _ => ((s22a_3 d  x w f).trans ((pm_call1_of (z35a (d + 0) x w f)).trans ((s22a_4 d  x w f).trans (pm_iteG (g := (fun t => some (pm_h0 f t))) (fun _ => rfl) (fun _ => rfl)))))) (fun _ => pm_iteG (g := (fun t => some (pm_h0 f t))) (fun _ => rfl) (fun _ => rfl))))
theorem z22a {sc : pm_Sc} (d : Nat) (x : Nat → Nat → Int32) (w : Nat → Nat → Bool) (f : Nat → Nat → Nat) : pm_call pm_Tf sc (d + 3) 22 [pm_r 29] (pm_u x w f) = some (pm_h0 f (q22a x w f)) := e22a d x w f
theorem s30a_0 {sc : pm_Sc} (d : Nat) (i : Int32) (x : Nat → Nat → Int32) (w : Nat → Nat → Bool) (f : Nat → Nat → Nat) : pm_ev (pm_call pm_Tf sc (d + 3)) sc 1 pm_c30 0 [(0, pm_r 29), (1, .inl i)] [] (pm_u x w f) = (if i = 0 then some (some (.inl (x 29 4)), pm_u x w f) else (if i = 1 then some (some (.inl (x 29 5)), pm_u x w f) else (if i = 2 then pm_ev (pm_call pm_Tf sc (d + 3)) sc 1 pm_c30 59 [(0, pm_r 29), (1, .inl i)] [pm_r 29] (pm_u x w f) else (if i = 3 then some (some (.inl (x 31 0)), pm_u x w f) else (if i = 4 then some (some (.inl (x 1 1)), pm_u x w f) else (if i = 5 then pm_ev (pm_call pm_Tf sc (d + 3)) sc 1 pm_c30 80 [(0, pm_r 29), (1, .inl i)] [pm_r 29] (pm_u x w f) else (if i = 6 then pm_ev (pm_call pm_Tf sc (d + 3)) sc 1 pm_c30 85 [(0, pm_r 29), (1, .inl i)] [pm_r 29] (pm_u x w f) else (if i = 7 then some (some (.inl (x 29 8)), pm_u x w f) else some (some (.inl (-1)), pm_u x w f))))))))) := by
  exact (pm_ev_iter [59, 80, 85, 88] 3000 _ _ _ _).trans rfl
theorem s30a_1 {sc : pm_Sc} (d : Nat) (i : Int32) (x : Nat → Nat → Int32) (w : Nat → Nat → Bool) (f : Nat → Nat → Nat) : pm_ev (pm_call pm_Tf sc (d + 3)) sc 1 pm_c30 59 [(0, pm_r 29), (1, .inl i)] [pm_r 29] (pm_u x w f) = pm_call1 (fun v u => pm_ev (pm_call pm_Tf sc (d + 3)) sc 1 pm_c30 62 [(0, pm_r 29), (1, .inl i)] (v.toList ++ []) u) none ((pm_call pm_Tf sc (d + 3)) 25 [pm_r 29] (pm_u x w f)) := by
  exact (pm_ev_step _ _ _ _).trans rfl
theorem s30a_2 {sc : pm_Sc} (d : Nat) (i : Int32) (x : Nat → Nat → Int32) (w : Nat → Nat → Bool) (f : Nat → Nat → Nat) : pm_ev (pm_call pm_Tf sc (d + 3)) sc 1 pm_c30 62 [(0, pm_r 29), (1, .inl i)] [.inl (q25a x w f)] (pm_u x w f) = some (some (.inl (q25a x w f)), pm_u x w f) := by
  exact (pm_ev_iter [59, 80, 85, 88] 3000 _ _ _ _).trans rfl
theorem s30a_3 {sc : pm_Sc} (d : Nat) (i : Int32) (x : Nat → Nat → Int32) (w : Nat → Nat → Bool) (f : Nat → Nat → Nat) : pm_ev (pm_call pm_Tf sc (d + 3)) sc 1 pm_c30 80 [(0, pm_r 29), (1, .inl i)] [pm_r 29] (pm_u x w f) = pm_call1 (fun v u => pm_ev (pm_call pm_Tf sc (d + 3)) sc 1 pm_c30 83 [(0, pm_r 29), (1, .inl i)] (v.toList ++ []) u) none ((pm_call pm_Tf sc (d + 3)) 28 [pm_r 29] (pm_u x w f)) := by
  exact (pm_ev_step _ _ _ _).trans rfl
theorem s30a_4 {sc : pm_Sc} (d : Nat) (i : Int32) (x : Nat → Nat → Int32) (w : Nat → Nat → Bool) (f : Nat → Nat → Nat) : pm_ev (pm_call pm_Tf sc (d + 3)) sc 1 pm_c30 83 [(0, pm_r 29), (1, .inl i)] [.inl (q28a x w f)] (pm_u x w f) = some (some (.inl (q28a x w f)), pm_u x w f) := by
  exact (pm_ev_iter [59, 80, 85, 88] 3000 _ _ _ _).trans rfl
theorem s30a_5 {sc : pm_Sc} (d : Nat) (i : Int32) (x : Nat → Nat → Int32) (w : Nat → Nat → Bool) (f : Nat → Nat → Nat) : pm_ev (pm_call pm_Tf sc (d + 3)) sc 1 pm_c30 85 [(0, pm_r 29), (1, .inl i)] [pm_r 29] (pm_u x w f) = pm_call1 (fun v u => pm_ev (pm_call pm_Tf sc (d + 3)) sc 1 pm_c30 88 [(0, pm_r 29), (1, .inl i)] (v.toList ++ []) u) none ((pm_call pm_Tf sc (d + 3)) 36 [pm_r 29] (pm_u x w f)) := by
  exact (pm_ev_step _ _ _ _).trans rfl
theorem s30a_6 {sc : pm_Sc} (d : Nat) (i : Int32) (x : Nat → Nat → Int32) (w : Nat → Nat → Bool) (f : Nat → Nat → Nat) : pm_ev (pm_call pm_Tf sc (d + 3)) sc 1 pm_c30 88 [(0, pm_r 29), (1, .inl i)] [pm_b (q36a x w f)] (pm_u x w f) = pm_call1 (fun v u => pm_ev (pm_call pm_Tf sc (d + 3)) sc 1 pm_c30 91 [(0, pm_r 29), (1, .inl i)] (v.toList ++ []) u) none ((pm_call pm_Tf sc (d + 3)) 72 [pm_b (q36a x w f)] (pm_u x w f)) := by
  exact (pm_ev_step _ _ _ _).trans rfl
theorem s30a_7 {sc : pm_Sc} (d : Nat) (i : Int32) (x : Nat → Nat → Int32) (w : Nat → Nat → Bool) (f : Nat → Nat → Nat) : pm_ev (pm_call pm_Tf sc (d + 3)) sc 1 pm_c30 91 [(0, pm_r 29), (1, .inl i)] [.inl (q72 (q36a x w f) x w f)] (pm_u x w f) = some (some (.inl (q72 (q36a x w f) x w f)), pm_u x w f) := by
  exact (pm_ev_iter [59, 80, 85, 88] 3000 _ _ _ _).trans rfl
def q30a (i : Int32) (x : Nat → Nat → Int32) (w : Nat → Nat → Bool) (f : Nat → Nat → Nat) : Int32 := (if i = 0 then x 29 4 else (if i = 1 then x 29 5 else (if i = 2 then (q25a x w f) else (if i = 3 then x 31 0 else (if i = 4 then x 1 1 else (if i = 5 then (q28a x w f) else (if i = 6 then (q72 (q36a x w f) x w f) else (if i = 7 then x 29 8 else (-1)))))))))
theorem e30a {sc : pm_Sc} (d : Nat) (i : Int32) (x : Nat → Nat → Int32) (w : Nat → Nat → Bool) (f : Nat → Nat → Nat) : pm_ev (pm_call pm_Tf sc (d + 3)) sc 1 pm_c30 0 [(0, pm_r 29), (1, .inl i)] [] (pm_u x w f) = some (pm_g1 x w f (q30a i x w f)) := (s30a_0 d i x w f).trans (pm_iteG (g := (fun t => some (pm_g1 x w f t))) (fun _ => rfl) (fun _ => pm_iteG (g := (fun t => some (pm_g1 x w f t))) (fun _ => rfl) (fun _ => pm_iteG (g := (fun t => some (pm_g1 x w f t))) (fun _ => ((s30a_1 d i x w f).trans ((pm_call1_of (z25a (d + 3) x w f)).trans ((s30a_2 d i x w f).trans (rfl))))) (fun _ => pm_iteG (g := (fun t => some (pm_g1 x w f t))) (fun _ => rfl) (fun _ => pm_iteG (g := (fun t => some (pm_g1 x w f t))) (fun _ => rfl) (fun _ => pm_iteG (g := (fun t => some (pm_g1 x w f t))) (fun _ => ((s30a_3 d i x w f).trans ((pm_call1_of (z28a (d + 1) x w f)).trans ((s30a_4 d i x w f).trans (rfl))))) (fun _ => pm_iteG (g := (fun t => some (pm_g1 x w f t))) (fun _ => ((s30a_5 d i x w f).trans ((pm_call1_of (z36a (d + 1) x w f)).trans (((s30a_6 d i x w f).trans ((pm_call1_of (z72 (d + 3) (q36a x w f) x w f)).trans ((s30a_7 d i x w f).trans (rfl)))))))) (fun _ => pm_iteG (g := (fun t => some (pm_g1 x w f t))) (fun _ => rfl) (fun _ => rfl)))))))))
theorem z30a {sc : pm_Sc} (d : Nat) (i : Int32) (x : Nat → Nat → Int32) (w : Nat → Nat → Bool) (f : Nat → Nat → Nat) : pm_call pm_Tf sc (d + 4) 30 [pm_r 29, .inl i] (pm_u x w f) = some (pm_g1 x w f (q30a i x w f)) := e30a d i x w f
theorem s21a_58_7_0 {sc : pm_Sc} (d : Nat)  (x : Nat → Nat → Int32) (w : Nat → Nat → Bool) (f : Nat → Nat → Nat) : pm_ev (pm_call pm_Tf sc (d + 4)) sc 0 pm_c21 58 [(1, .inl 7), (0, pm_r 29)] [] (pm_u x w f) = pm_ev (pm_call pm_Tf sc (d + 4)) sc 0 pm_c21 64 [(1, .inl 8), (0, pm_r 29)] [] (pm_u x w f) := by
  exact (pm_ev_iter [11, 15, 44, 55, 64, 74] 3000 _ _ _ _).trans rfl
def q21a_58_7 (x : Nat → Nat → Int32) (w : Nat → Nat → Bool) (f : Nat → Nat → Nat) : (Nat → Nat → Int32) × (Nat → Nat → Bool) := (x, w)
theorem e21a_58_7 {sc : pm_Sc} (d : Nat)  (x : Nat → Nat → Int32) (w : Nat → Nat → Bool) (f : Nat → Nat → Nat) : pm_ev (pm_call pm_Tf sc (d + 4)) sc 0 pm_c21 58 [(1, .inl 7), (0, pm_r 29)] [] (pm_u x w f) = pm_ev (pm_call pm_Tf sc (d + 4)) sc 0 pm_c21 64 [(1, .inl 8), (0, pm_r 29)] [] (pm_u (q21a_58_7 x w f).1 (q21a_58_7 x w f).2 f) := (s21a_58_7_0 d  x w f).trans (rfl)
theorem s21a_55_7_0 {sc : pm_Sc} (d : Nat) (b0 : Bool) (x : Nat → Nat → Int32) (w : Nat → Nat → Bool) (f : Nat → Nat → Nat) : pm_ev (pm_call pm_Tf sc (d + 4)) sc 0 pm_c21 55 [(1, .inl 7), (0, pm_r 29)] [pm_bi b0, pm_r 46] (pm_u x w f) = pm_call1 (fun v u => pm_ev (pm_call pm_Tf sc (d + 4)) sc 0 pm_c21 58 [(1, .inl 7), (0, pm_r 29)] (v.toList ++ []) u) none ((pm_call pm_Tf sc (d + 4)) 7 [pm_r 46, pm_bi b0] (pm_u x w f)) := by
  cases b0 <;> exact (pm_ev_step _ _ _ _).trans rfl
def q21a_55_7 (b0 : Bool) (x : Nat → Nat → Int32) (w : Nat → Nat → Bool) (f : Nat → Nat → Nat) : (Nat → Nat → Int32) × (Nat → Nat → Bool) := q21a_58_7 ((q7 46 b0 x w f).1) ((q7 46 b0 x w f).2) f
theorem e21a_55_7 {sc : pm_Sc} (d : Nat) (b0 : Bool) (x : Nat → Nat → Int32) (w : Nat → Nat → Bool) (f : Nat → Nat → Nat) : pm_ev (pm_call pm_Tf sc (d + 4)) sc 0 pm_c21 55 [(1, .inl 7), (0, pm_r 29)] [pm_bi b0, pm_r 46] (pm_u x w f) = pm_ev (pm_call pm_Tf sc (d + 4)) sc 0 pm_c21 64 [(1, .inl 8), (0, pm_r 29)] [] (pm_u (q21a_55_7 b0 x w f).1 (q21a_55_7 b0 x w f).2 f) := ((s21a_55_7_0 d b0 x w f).trans ((pm_call1_of (z7 (d + 2) 46 b0 x w f (by decide))).trans (e21a_58_7 d  ((q7 46 b0 x w f).1) ((q7 46 b0 x w f).2) f)))
theorem s21a_58_6_0 {sc : pm_Sc} (d : Nat)  (x : Nat → Nat → Int32) (w : Nat → Nat → Bool) (f : Nat → Nat → Nat) : pm_ev (pm_call pm_Tf sc (d + 4)) sc 0 pm_c21 58 [(1, .inl 6), (0, pm_r 29)] [] (pm_u x w f) = (if (x 29 5) = 0 then pm_ev (pm_call pm_Tf sc (d + 4)) sc 0 pm_c21 55 [(1, .inl 7), (0, pm_r 29)] [.inl 0, pm_r 46] (pm_u x w f) else pm_ev (pm_call pm_Tf sc (d + 4)) sc 0 pm_c21 44 [(1, .inl 7), (0, pm_r 29)] [.inl 7, pm_r 31, pm_r 46] (pm_u x w f)) := by
  exact (pm_ev_iter [11, 15, 44, 55, 64, 74] 3000 _ _ _ _).trans rfl
theorem s21a_58_6_1 {sc : pm_Sc} (d : Nat)  (x : Nat → Nat → Int32) (w : Nat → Nat → Bool) (f : Nat → Nat → Nat) : pm_ev (pm_call pm_Tf sc (d + 4)) sc 0 pm_c21 44 [(1, .inl 7), (0, pm_r 29)] [.inl 7, pm_r 31, pm_r 46] (pm_u x w f) = pm_call1 (fun v u => pm_ev (pm_call pm_Tf sc (d + 4)) sc 0 pm_c21 47 [(1, .inl 7), (0, pm_r 29)] (v.toList ++ [pm_r 46]) u) none ((pm_call pm_Tf sc (d + 4)) 3 [pm_r 31, .inl 7] (pm_u x w f)) := by
  exact (pm_ev_step _ _ _ _).trans rfl
theorem s21a_58_6_2 {sc : pm_Sc} (d : Nat)  (x : Nat → Nat → Int32) (w : Nat → Nat → Bool) (f : Nat → Nat → Nat) : pm_ev (pm_call pm_Tf sc (d + 4)) sc 0 pm_c21 47 [(1, .inl 7), (0, pm_r 29)] [pm_b (q3 31 7 x w f), pm_r 46] (pm_u x w f) = (if (q3 31 7 x w f) = true then pm_ev (pm_call pm_Tf sc (d + 4)) sc 0 pm_c21 55 [(1, .inl 7), (0, pm_r 29)] [.inl 0, pm_r 46] (pm_u x w f) else pm_ev (pm_call pm_Tf sc (d + 4)) sc 0 pm_c21 55 [(1, .inl 7), (0, pm_r 29)] [.inl 1, pm_r 46] (pm_u x w f)) := by
  exact (pm_ev_iter [11, 15, 44, 55, 64, 74] 3000 _ _ _ _).trans rfl
def q21a_58_6 (x : Nat → Nat → Int32) (w : Nat → Nat → Bool) (f : Nat → Nat → Nat) : (Nat → Nat → Int32) × (Nat → Nat → Bool) := (if (x 29 5) = 0 then q21a_55_7 false x w f else (if (q3 31 7 x w f) = true then q21a_55_7 false x w f else q21a_55_7 true x w f))
theorem e21a_58_6 {sc : pm_Sc} (d : Nat)  (x : Nat → Nat → Int32) (w : Nat → Nat → Bool) (f : Nat → Nat → Nat) : pm_ev (pm_call pm_Tf sc (d + 4)) sc 0 pm_c21 58 [(1, .inl 6), (0, pm_r 29)] [] (pm_u x w f) = pm_ev (pm_call pm_Tf sc (d + 4)) sc 0 pm_c21 64 [(1, .inl 8), (0, pm_r 29)] [] (pm_u (q21a_58_6 x w f).1 (q21a_58_6 x w f).2 f) := (s21a_58_6_0 d  x w f).trans (pm_iteG (g := (fun (t : (Nat → Nat → Int32) × (Nat → Nat → Bool)) => pm_ev (pm_call pm_Tf sc (d + 4)) sc 0 pm_c21 64 [(1, .inl 8), (0, pm_r 29)] [] (pm_u t.1 t.2 f))) (fun _ => e21a_55_7 d  false x w f) (fun _ => ((s21a_58_6_1 d  x w f).trans ((pm_call1_of (z3 (d + 4) 31 7 x w f (by decide))).trans ((s21a_58_6_2 d  x w f).trans (pm_iteG (g := (fun (t : (Nat → Nat → Int32) × (Nat → Nat → Bool)) => pm_ev (pm_call pm_Tf sc (d + 4)) sc 0 pm_c21 64 [(1, .inl 8), (0, pm_r 29)] [] (pm_u t.1 t.2 f))) (fun _ => e21a_55_7 d  false x w f) (fun _ => e21a_55_7 d  true x w f)))))))
theorem s21a_55_6_0 {sc : pm_Sc} (d : Nat) (b0 : Bool) (x : Nat → Nat → Int32) (w : Nat → Nat → Bool) (f : Nat → Nat → Nat) : pm_ev (pm_call pm_Tf sc (d + 4)) sc 0 pm_c21 55 [(1, .inl 6), (0, pm_r 29)] [pm_bi b0, pm_r 44] (pm_u x w f) = pm_call1 (fun v u => pm_ev (pm_call pm_Tf sc (d + 4)) sc 0 pm_c21 58 [(1, .inl 6), (0, pm_r 29)] (v.toList ++ []) u) none ((pm_call pm_Tf sc (d + 4)) 7 [pm_r 44, pm_bi b0] (pm_u x w f)) := by
  cases b0 <;> exact (pm_ev_step _ _ _ _).trans rfl
def q21a_55_6 (b0 : Bool) (x : Nat → Nat → Int32) (w : Nat → Nat → Bool) (f : Nat → Nat → Nat) : (Nat → Nat → Int32) × (Nat → Nat → Bool) := q21a_58_6 ((q7 44 b0 x w f).1) ((q7 44 b0 x w f).2) f
theorem e21a_55_6 {sc : pm_Sc} (d : Nat) (b0 : Bool) (x : Nat → Nat → Int32) (w : Nat → Nat → Bool) (f : Nat → Nat → Nat) : pm_ev (pm_call pm_Tf sc (d + 4)) sc 0 pm_c21 55 [(1, .inl 6), (0, pm_r 29)] [pm_bi b0, pm_r 44] (pm_u x w f) = pm_ev (pm_call pm_Tf sc (d + 4)) sc 0 pm_c21 64 [(1, .inl 8), (0, pm_r 29)] [] (pm_u (q21a_55_6 b0 x w f).1 (q21a_55_6 b0 x w f).2 f) := ((s21a_55_6_0 d b0 x w f).trans ((pm_call1_of (z7 (d + 2) 44 b0 x w f (by decide))).trans (e21a_58_6 d  ((q7 44 b0 x w f).1) ((q7 44 b0 x w f).2) f)))
theorem s21a_58_5_0 {sc : pm_Sc} (d : Nat)  (x : Nat → Nat → Int32) (w : Nat → Nat → Bool) (f : Nat → Nat → Nat) : pm_ev (pm_call pm_Tf sc (d + 4)) sc 0 pm_c21 58 [(1, .inl 5), (0, pm_r 29)] [] (pm_u x w f) = (if (x 29 5) = 0 then pm_ev (pm_call pm_Tf sc (d + 4)) sc 0 pm_c21 55 [(1, .inl 6), (0, pm_r 29)] [.inl 0, pm_r 44] (pm_u x w f) else pm_ev (pm_call pm_Tf sc (d + 4)) sc 0 pm_c21 44 [(1, .inl 6), (0, pm_r 29)] [.inl 6, pm_r 31, pm_r 44] (pm_u x w f)) := by
  exact (pm_ev_iter [11, 15, 44, 55, 64, 74] 3000 _ _ _ _).trans rfl
theorem s21a_58_5_1 {sc : pm_Sc} (d : Nat)  (x : Nat → Nat → Int32) (w : Nat → Nat → Bool) (f : Nat → Nat → Nat) : pm_ev (pm_call pm_Tf sc (d + 4)) sc 0 pm_c21 44 [(1, .inl 6), (0, pm_r 29)] [.inl 6, pm_r 31, pm_r 44] (pm_u x w f) = pm_call1 (fun v u => pm_ev (pm_call pm_Tf sc (d + 4)) sc 0 pm_c21 47 [(1, .inl 6), (0, pm_r 29)] (v.toList ++ [pm_r 44]) u) none ((pm_call pm_Tf sc (d + 4)) 3 [pm_r 31, .inl 6] (pm_u x w f)) := by
  exact (pm_ev_step _ _ _ _).trans rfl
theorem s21a_58_5_2 {sc : pm_Sc} (d : Nat)  (x : Nat → Nat → Int32) (w : Nat → Nat → Bool) (f : Nat → Nat → Nat) : pm_ev (pm_call pm_Tf sc (d + 4)) sc 0 pm_c21 47 [(1, .inl 6), (0, pm_r 29)] [pm_b (q3 31 6 x w f), pm_r 44] (pm_u x w f) = (if (q3 31 6 x w f) = true then pm_ev (pm_call pm_Tf sc (d + 4)) sc 0 pm_c21 55 [(1, .inl 6), (0, pm_r 29)] [.inl 0, pm_r 44] (pm_u x w f) else pm_ev (pm_call pm_Tf sc (d + 4)) sc 0 pm_c21 55 [(1, .inl 6), (0, pm_r 29)] [.inl 1, pm_r 44] (pm_u x w f)) := by
  exact (pm_ev_iter [11, 15, 44, 55, 64, 74] 3000 _ _ _ _).trans rfl
def q21a_58_5 (x : Nat → Nat → Int32) (w : Nat → Nat → Bool) (f : Nat → Nat → Nat) : (Nat → Nat → Int32) × (Nat → Nat → Bool) := (if (x 29 5) = 0 then q21a_55_6 false x w f else (if (q3 31 6 x w f) = true then q21a_55_6 false x w f else q21a_55_6 true x w f))
theorem e21a_58_5 {sc : pm_Sc} (d : Nat)  (x : Nat → Nat → Int32) (w : Nat → Nat → Bool) (f : Nat → Nat → Nat) : pm_ev (pm_call pm_Tf sc (d + 4)) sc 0 pm_c21 58 [(1, .inl 5), (0, pm_r 29)] [] (pm_u x w f) = pm_ev (pm_call pm_Tf sc (d + 4)) sc 0 pm_c21 64 [(1, .inl 8), (0, pm_r 29)] [] (pm_u (q21a_58_5 x w f).1 (q21a_58_5 x w f).2 f) := (s21a_58_5_0 d  x w f).trans (pm_iteG (g := (fun (t : (Nat → Nat → Int32) × (Nat → Nat → Bool)) => pm_ev (pm_call pm_Tf sc (d + 4)) sc 0 pm_c21 64 [(1, .inl 8), (0, pm_r 29)] [] (pm_u t.1 t.2 f))) (fun _ => e21a_55_6 d  false x w f) (fun _ => ((s21a_58_5_1 d  x w f).trans ((pm_call1_of (z3 (d + 4) 31 6 x w f (by decide))).trans ((s21a_58_5_2 d  x w f).trans (pm_iteG (g := (fun (t : (Nat → Nat → Int32) × (Nat → Nat → Bool)) => pm_ev (pm_call pm_Tf sc (d + 4)) sc 0 pm_c21 64 [(1, .inl 8), (0, pm_r 29)] [] (pm_u t.1 t.2 f))) (fun _ => e21a_55_6 d  false x w f) (fun _ => e21a_55_6 d  true x w f)))))))
theorem s21a_55_5_0 {sc : pm_Sc} (d : Nat) (b0 : Bool) (x : Nat → Nat → Int32) (w : Nat → Nat → Bool) (f : Nat → Nat → Nat) : pm_ev (pm_call pm_Tf sc (d + 4)) sc 0 pm_c21 55 [(1, .inl 5), (0, pm_r 29)] [pm_bi b0, pm_r 42] (pm_u x w f) = pm_call1 (fun v u => pm_ev (pm_call pm_Tf sc (d + 4)) sc 0 pm_c21 58 [(1, .inl 5), (0, pm_r 29)] (v.toList ++ []) u) none ((pm_call pm_Tf sc (d + 4)) 7 [pm_r 42, pm_bi b0] (pm_u x w f)) := by
  cases b0 <;> exact (pm_ev_step _ _ _ _).trans rfl
def q21a_55_5 (b0 : Bool) (x : Nat → Nat → Int32) (w : Nat → Nat → Bool) (f : Nat → Nat → Nat) : (Nat → Nat → Int32) × (Nat → Nat → Bool) := q21a_58_5 ((q7 42 b0 x w f).1) ((q7 42 b0 x w f).2) f
theorem e21a_55_5 {sc : pm_Sc} (d : Nat) (b0 : Bool) (x : Nat → Nat → Int32) (w : Nat → Nat → Bool) (f : Nat → Nat → Nat) : pm_ev (pm_call pm_Tf sc (d + 4)) sc 0 pm_c21 55 [(1, .inl 5), (0, pm_r 29)] [pm_bi b0, pm_r 42] (pm_u x w f) = pm_ev (pm_call pm_Tf sc (d + 4)) sc 0 pm_c21 64 [(1, .inl 8), (0, pm_r 29)] [] (pm_u (q21a_55_5 b0 x w f).1 (q21a_55_5 b0 x w f).2 f) := ((s21a_55_5_0 d b0 x w f).trans ((pm_call1_of (z7 (d + 2) 42 b0 x w f (by decide))).trans (e21a_58_5 d  ((q7 42 b0 x w f).1) ((q7 42 b0 x w f).2) f)))
theorem s21a_58_4_0 {sc : pm_Sc} (d : Nat)  (x : Nat → Nat → Int32) (w : Nat → Nat → Bool) (f : Nat → Nat → Nat) : pm_ev (pm_call pm_Tf sc (d + 4)) sc 0 pm_c21 58 [(1, .inl 4), (0, pm_r 29)] [] (pm_u x w f) = (if (x 29 5) = 0 then pm_ev (pm_call pm_Tf sc (d + 4)) sc 0 pm_c21 55 [(1, .inl 5), (0, pm_r 29)] [.inl 0, pm_r 42] (pm_u x w f) else pm_ev (pm_call pm_Tf sc (d + 4)) sc 0 pm_c21 44 [(1, .inl 5), (0, pm_r 29)] [.inl 5, pm_r 31, pm_r 42] (pm_u x w f)) := by
  exact (pm_ev_iter [11, 15, 44, 55, 64, 74] 3000 _ _ _ _).trans rfl
theorem s21a_58_4_1 {sc : pm_Sc} (d : Nat)  (x : Nat → Nat → Int32) (w : Nat → Nat → Bool) (f : Nat → Nat → Nat) : pm_ev (pm_call pm_Tf sc (d + 4)) sc 0 pm_c21 44 [(1, .inl 5), (0, pm_r 29)] [.inl 5, pm_r 31, pm_r 42] (pm_u x w f) = pm_call1 (fun v u => pm_ev (pm_call pm_Tf sc (d + 4)) sc 0 pm_c21 47 [(1, .inl 5), (0, pm_r 29)] (v.toList ++ [pm_r 42]) u) none ((pm_call pm_Tf sc (d + 4)) 3 [pm_r 31, .inl 5] (pm_u x w f)) := by
  exact (pm_ev_step _ _ _ _).trans rfl
theorem s21a_58_4_2 {sc : pm_Sc} (d : Nat)  (x : Nat → Nat → Int32) (w : Nat → Nat → Bool) (f : Nat → Nat → Nat) : pm_ev (pm_call pm_Tf sc (d + 4)) sc 0 pm_c21 47 [(1, .inl 5), (0, pm_r 29)] [pm_b (q3 31 5 x w f), pm_r 42] (pm_u x w f) = (if (q3 31 5 x w f) = true then pm_ev (pm_call pm_Tf sc (d + 4)) sc 0 pm_c21 55 [(1, .inl 5), (0, pm_r 29)] [.inl 0, pm_r 42] (pm_u x w f) else pm_ev (pm_call pm_Tf sc (d + 4)) sc 0 pm_c21 55 [(1, .inl 5), (0, pm_r 29)] [.inl 1, pm_r 42] (pm_u x w f)) := by
  exact (pm_ev_iter [11, 15, 44, 55, 64, 74] 3000 _ _ _ _).trans rfl
def q21a_58_4 (x : Nat → Nat → Int32) (w : Nat → Nat → Bool) (f : Nat → Nat → Nat) : (Nat → Nat → Int32) × (Nat → Nat → Bool) := (if (x 29 5) = 0 then q21a_55_5 false x w f else (if (q3 31 5 x w f) = true then q21a_55_5 false x w f else q21a_55_5 true x w f))
theorem e21a_58_4 {sc : pm_Sc} (d : Nat)  (x : Nat → Nat → Int32) (w : Nat → Nat → Bool) (f : Nat → Nat → Nat) : pm_ev (pm_call pm_Tf sc (d + 4)) sc 0 pm_c21 58 [(1, .inl 4), (0, pm_r 29)] [] (pm_u x w f) = pm_ev (pm_call pm_Tf sc (d + 4)) sc 0 pm_c21 64 [(1, .inl 8), (0, pm_r 29)] [] (pm_u (q21a_58_4 x w f).1 (q21a_58_4 x w f).2 f) := (s21a_58_4_0 d  x w f).trans (pm_iteG (g := (fun (t : (Nat → Nat → Int32) × (Nat → Nat → Bool)) => pm_ev (pm_call pm_Tf sc (d + 4)) sc 0 pm_c21 64 [(1, .inl 8), (0, pm_r 29)] [] (pm_u t.1 t.2 f))) (fun _ => e21a_55_5 d  false x w f) (fun _ => ((s21a_58_4_1 d  x w f).trans ((pm_call1_of (z3 (d + 4) 31 5 x w f (by decide))).trans ((s21a_58_4_2 d  x w f).trans (pm_iteG (g := (fun (t : (Nat → Nat → Int32) × (Nat → Nat → Bool)) => pm_ev (pm_call pm_Tf sc (d + 4)) sc 0 pm_c21 64 [(1, .inl 8), (0, pm_r 29)] [] (pm_u t.1 t.2 f))) (fun _ => e21a_55_5 d  false x w f) (fun _ => e21a_55_5 d  true x w f)))))))
theorem s21a_55_4_0 {sc : pm_Sc} (d : Nat) (b0 : Bool) (x : Nat → Nat → Int32) (w : Nat → Nat → Bool) (f : Nat → Nat → Nat) : pm_ev (pm_call pm_Tf sc (d + 4)) sc 0 pm_c21 55 [(1, .inl 4), (0, pm_r 29)] [pm_bi b0, pm_r 40] (pm_u x w f) = pm_call1 (fun v u => pm_ev (pm_call pm_Tf sc (d + 4)) sc 0 pm_c21 58 [(1, .inl 4), (0, pm_r 29)] (v.toList ++ []) u) none ((pm_call pm_Tf sc (d + 4)) 7 [pm_r 40, pm_bi b0] (pm_u x w f)) := by
  cases b0 <;> exact (pm_ev_step _ _ _ _).trans rfl
def q21a_55_4 (b0 : Bool) (x : Nat → Nat → Int32) (w : Nat → Nat → Bool) (f : Nat → Nat → Nat) : (Nat → Nat → Int32) × (Nat → Nat → Bool) := q21a_58_4 ((q7 40 b0 x w f).1) ((q7 40 b0 x w f).2) f
theorem e21a_55_4 {sc : pm_Sc} (d : Nat) (b0 : Bool) (x : Nat → Nat → Int32) (w : Nat → Nat → Bool) (f : Nat → Nat → Nat) : pm_ev (pm_call pm_Tf sc (d + 4)) sc 0 pm_c21 55 [(1, .inl 4), (0, pm_r 29)] [pm_bi b0, pm_r 40] (pm_u x w f) = pm_ev (pm_call pm_Tf sc (d + 4)) sc 0 pm_c21 64 [(1, .inl 8), (0, pm_r 29)] [] (pm_u (q21a_55_4 b0 x w f).1 (q21a_55_4 b0 x w f).2 f) := ((s21a_55_4_0 d b0 x w f).trans ((pm_call1_of (z7 (d + 2) 40 b0 x w f (by decide))).trans (e21a_58_4 d  ((q7 40 b0 x w f).1) ((q7 40 b0 x w f).2) f)))
theorem s21a_58_3_0 {sc : pm_Sc} (d : Nat)  (x : Nat → Nat → Int32) (w : Nat → Nat → Bool) (f : Nat → Nat → Nat) : pm_ev (pm_call pm_Tf sc (d + 4)) sc 0 pm_c21 58 [(1, .inl 3), (0, pm_r 29)] [] (pm_u x w f) = (if (x 29 5) = 0 then pm_ev (pm_call pm_Tf sc (d + 4)) sc 0 pm_c21 55 [(1, .inl 4), (0, pm_r 29)] [.inl 0, pm_r 40] (pm_u x w f) else pm_ev (pm_call pm_Tf sc (d + 4)) sc 0 pm_c21 44 [(1, .inl 4), (0, pm_r 29)] [.inl 4, pm_r 31, pm_r 40] (pm_u x w f)) := by
  exact (pm_ev_iter [11, 15, 44, 55, 64, 74] 3000 _ _ _ _).trans rfl
theorem s21a_58_3_1 {sc : pm_Sc} (d : Nat)  (x : Nat → Nat → Int32) (w : Nat → Nat → Bool) (f : Nat → Nat → Nat) : pm_ev (pm_call pm_Tf sc (d + 4)) sc 0 pm_c21 44 [(1, .inl 4), (0, pm_r 29)] [.inl 4, pm_r 31, pm_r 40] (pm_u x w f) = pm_call1 (fun v u => pm_ev (pm_call pm_Tf sc (d + 4)) sc 0 pm_c21 47 [(1, .inl 4), (0, pm_r 29)] (v.toList ++ [pm_r 40]) u) none ((pm_call pm_Tf sc (d + 4)) 3 [pm_r 31, .inl 4] (pm_u x w f)) := by
  exact (pm_ev_step _ _ _ _).trans rfl
theorem s21a_58_3_2 {sc : pm_Sc} (d : Nat)  (x : Nat → Nat → Int32) (w : Nat → Nat → Bool) (f : Nat → Nat → Nat) : pm_ev (pm_call pm_Tf sc (d + 4)) sc 0 pm_c21 47 [(1, .inl 4), (0, pm_r 29)] [pm_b (q3 31 4 x w f), pm_r 40] (pm_u x w f) = (if (q3 31 4 x w f) = true then pm_ev (pm_call pm_Tf sc (d + 4)) sc 0 pm_c21 55 [(1, .inl 4), (0, pm_r 29)] [.inl 0, pm_r 40] (pm_u x w f) else pm_ev (pm_call pm_Tf sc (d + 4)) sc 0 pm_c21 55 [(1, .inl 4), (0, pm_r 29)] [.inl 1, pm_r 40] (pm_u x w f)) := by
  exact (pm_ev_iter [11, 15, 44, 55, 64, 74] 3000 _ _ _ _).trans rfl
def q21a_58_3 (x : Nat → Nat → Int32) (w : Nat → Nat → Bool) (f : Nat → Nat → Nat) : (Nat → Nat → Int32) × (Nat → Nat → Bool) := (if (x 29 5) = 0 then q21a_55_4 false x w f else (if (q3 31 4 x w f) = true then q21a_55_4 false x w f else q21a_55_4 true x w f))
theorem e21a_58_3 {sc : pm_Sc} (d : Nat)  (x : Nat → Nat → Int32) (w : Nat → Nat → Bool) (f : Nat → Nat → Nat) : pm_ev (pm_call pm_Tf sc (d + 4)) sc 0 pm_c21 58 [(1, .inl 3), (0, pm_r 29)] [] (pm_u x w f) = pm_ev (pm_call pm_Tf sc (d + 4)) sc 0 pm_c21 64 [(1, .inl 8), (0, pm_r 29)] [] (pm_u (q21a_58_3 x w f).1 (q21a_58_3 x w f).2 f) := (s21a_58_3_0 d  x w f).trans (pm_iteG (g := (fun (t : (Nat → Nat → Int32) × (Nat → Nat → Bool)) => pm_ev (pm_call pm_Tf sc (d + 4)) sc 0 pm_c21 64 [(1, .inl 8), (0, pm_r 29)] [] (pm_u t.1 t.2 f))) (fun _ => e21a_55_4 d  false x w f) (fun _ => ((s21a_58_3_1 d  x w f).trans ((pm_call1_of (z3 (d + 4) 31 4 x w f (by decide))).trans ((s21a_58_3_2 d  x w f).trans (pm_iteG (g := (fun (t : (Nat → Nat → Int32) × (Nat → Nat → Bool)) => pm_ev (pm_call pm_Tf sc (d + 4)) sc 0 pm_c21 64 [(1, .inl 8), (0, pm_r 29)] [] (pm_u t.1 t.2 f))) (fun _ => e21a_55_4 d  false x w f) (fun _ => e21a_55_4 d  true x w f)))))))
theorem s21a_55_3_0 {sc : pm_Sc} (d : Nat) (b0 : Bool) (x : Nat → Nat → Int32) (w : Nat → Nat → Bool) (f : Nat → Nat → Nat) : pm_ev (pm_call pm_Tf sc (d + 4)) sc 0 pm_c21 55 [(1, .inl 3), (0, pm_r 29)] [pm_bi b0, pm_r 38] (pm_u x w f) = pm_call1 (fun v u => pm_ev (pm_call pm_Tf sc (d + 4)) sc 0 pm_c21 58 [(1, .inl 3), (0, pm_r 29)] (v.toList ++ []) u) none ((pm_call pm_Tf sc (d + 4)) 7 [pm_r 38, pm_bi b0] (pm_u x w f)) := by
  cases b0 <;> exact (pm_ev_step _ _ _ _).trans rfl
def q21a_55_3 (b0 : Bool) (x : Nat → Nat → Int32) (w : Nat → Nat → Bool) (f : Nat → Nat → Nat) : (Nat → Nat → Int32) × (Nat → Nat → Bool) := q21a_58_3 ((q7 38 b0 x w f).1) ((q7 38 b0 x w f).2) f
theorem e21a_55_3 {sc : pm_Sc} (d : Nat) (b0 : Bool) (x : Nat → Nat → Int32) (w : Nat → Nat → Bool) (f : Nat → Nat → Nat) : pm_ev (pm_call pm_Tf sc (d + 4)) sc 0 pm_c21 55 [(1, .inl 3), (0, pm_r 29)] [pm_bi b0, pm_r 38] (pm_u x w f) = pm_ev (pm_call pm_Tf sc (d + 4)) sc 0 pm_c21 64 [(1, .inl 8), (0, pm_r 29)] [] (pm_u (q21a_55_3 b0 x w f).1 (q21a_55_3 b0 x w f).2 f) := ((s21a_55_3_0 d b0 x w f).trans ((pm_call1_of (z7 (d + 2) 38 b0 x w f (by decide))).trans (e21a_58_3 d  ((q7 38 b0 x w f).1) ((q7 38 b0 x w f).2) f)))
theorem s21a_58_2_0 {sc : pm_Sc} (d : Nat)  (x : Nat → Nat → Int32) (w : Nat → Nat → Bool) (f : Nat → Nat → Nat) : pm_ev (pm_call pm_Tf sc (d + 4)) sc 0 pm_c21 58 [(1, .inl 2), (0, pm_r 29)] [] (pm_u x w f) = (if (x 29 5) = 0 then pm_ev (pm_call pm_Tf sc (d + 4)) sc 0 pm_c21 55 [(1, .inl 3), (0, pm_r 29)] [.inl 0, pm_r 38] (pm_u x w f) else pm_ev (pm_call pm_Tf sc (d + 4)) sc 0 pm_c21 44 [(1, .inl 3), (0, pm_r 29)] [.inl 3, pm_r 31, pm_r 38] (pm_u x w f)) := by
  exact (pm_ev_iter [11, 15, 44, 55, 64, 74] 3000 _ _ _ _).trans rfl
theorem s21a_58_2_1 {sc : pm_Sc} (d : Nat)  (x : Nat → Nat → Int32) (w : Nat → Nat → Bool) (f : Nat → Nat → Nat) : pm_ev (pm_call pm_Tf sc (d + 4)) sc 0 pm_c21 44 [(1, .inl 3), (0, pm_r 29)] [.inl 3, pm_r 31, pm_r 38] (pm_u x w f) = pm_call1 (fun v u => pm_ev (pm_call pm_Tf sc (d + 4)) sc 0 pm_c21 47 [(1, .inl 3), (0, pm_r 29)] (v.toList ++ [pm_r 38]) u) none ((pm_call pm_Tf sc (d + 4)) 3 [pm_r 31, .inl 3] (pm_u x w f)) := by
  exact (pm_ev_step _ _ _ _).trans rfl
theorem s21a_58_2_2 {sc : pm_Sc} (d : Nat)  (x : Nat → Nat → Int32) (w : Nat → Nat → Bool) (f : Nat → Nat → Nat) : pm_ev (pm_call pm_Tf sc (d + 4)) sc 0 pm_c21 47 [(1, .inl 3), (0, pm_r 29)] [pm_b (q3 31 3 x w f), pm_r 38] (pm_u x w f) = (if (q3 31 3 x w f) = true then pm_ev (pm_call pm_Tf sc (d + 4)) sc 0 pm_c21 55 [(1, .inl 3), (0, pm_r 29)] [.inl 0, pm_r 38] (pm_u x w f) else pm_ev (pm_call pm_Tf sc (d + 4)) sc 0 pm_c21 55 [(1, .inl 3), (0, pm_r 29)] [.inl 1, pm_r 38] (pm_u x w f)) := by
  exact (pm_ev_iter [11, 15, 44, 55, 64, 74] 3000 _ _ _ _).trans rfl
def q21a_58_2 (x : Nat → Nat → Int32) (w : Nat → Nat → Bool) (f : Nat → Nat → Nat) : (Nat → Nat → Int32) × (Nat → Nat → Bool) := (if (x 29 5) = 0 then q21a_55_3 false x w f else (if (q3 31 3 x w f) = true then q21a_55_3 false x w f else q21a_55_3 true x w f))
theorem e21a_58_2 {sc : pm_Sc} (d : Nat)  (x : Nat → Nat → Int32) (w : Nat → Nat → Bool) (f : Nat → Nat → Nat) : pm_ev (pm_call pm_Tf sc (d + 4)) sc 0 pm_c21 58 [(1, .inl 2), (0, pm_r 29)] [] (pm_u x w f) = pm_ev (pm_call pm_Tf sc (d + 4)) sc 0 pm_c21 64 [(1, .inl 8), (0, pm_r 29)] [] (pm_u (q21a_58_2 x w f).1 (q21a_58_2 x w f).2 f) := (s21a_58_2_0 d  x w f).trans (pm_iteG (g := (fun (t : (Nat → Nat → Int32) × (Nat → Nat → Bool)) => pm_ev (pm_call pm_Tf sc (d + 4)) sc 0 pm_c21 64 [(1, .inl 8), (0, pm_r 29)] [] (pm_u t.1 t.2 f))) (fun _ => e21a_55_3 d  false x w f) (fun _ => ((s21a_58_2_1 d  x w f).trans ((pm_call1_of (z3 (d + 4) 31 3 x w f (by decide))).trans ((s21a_58_2_2 d  x w f).trans (pm_iteG (g := (fun (t : (Nat → Nat → Int32) × (Nat → Nat → Bool)) => pm_ev (pm_call pm_Tf sc (d + 4)) sc 0 pm_c21 64 [(1, .inl 8), (0, pm_r 29)] [] (pm_u t.1 t.2 f))) (fun _ => e21a_55_3 d  false x w f) (fun _ => e21a_55_3 d  true x w f)))))))
theorem s21a_55_2_0 {sc : pm_Sc} (d : Nat) (b0 : Bool) (x : Nat → Nat → Int32) (w : Nat → Nat → Bool) (f : Nat → Nat → Nat) : pm_ev (pm_call pm_Tf sc (d + 4)) sc 0 pm_c21 55 [(1, .inl 2), (0, pm_r 29)] [pm_bi b0, pm_r 36] (pm_u x w f) = pm_call1 (fun v u => pm_ev (pm_call pm_Tf sc (d + 4)) sc 0 pm_c21 58 [(1, .inl 2), (0, pm_r 29)] (v.toList ++ []) u) none ((pm_call pm_Tf sc (d + 4)) 7 [pm_r 36, pm_bi b0] (pm_u x w f)) := by
  cases b0 <;> exact (pm_ev_step _ _ _ _).trans rfl
def q21a_55_2 (b0 : Bool) (x : Nat → Nat → Int32) (w : Nat → Nat → Bool) (f : Nat → Nat → Nat) : (Nat → Nat → Int32) × (Nat → Nat → Bool) := q21a_58_2 ((q7 36 b0 x w f).1) ((q7 36 b0 x w f).2) f
theorem e21a_55_2 {sc : pm_Sc} (d : Nat) (b0 : Bool) (x : Nat → Nat → Int32) (w : Nat → Nat → Bool) (f : Nat → Nat → Nat) : pm_ev (pm_call pm_Tf sc (d + 4)) sc 0 pm_c21 55 [(1, .inl 2), (0, pm_r 29)] [pm_bi b0, pm_r 36] (pm_u x w f) = pm_ev (pm_call pm_Tf sc (d + 4)) sc 0 pm_c21 64 [(1, .inl 8), (0, pm_r 29)] [] (pm_u (q21a_55_2 b0 x w f).1 (q21a_55_2 b0 x w f).2 f) := ((s21a_55_2_0 d b0 x w f).trans ((pm_call1_of (z7 (d + 2) 36 b0 x w f (by decide))).trans (e21a_58_2 d  ((q7 36 b0 x w f).1) ((q7 36 b0 x w f).2) f)))
theorem s21a_58_1_0 {sc : pm_Sc} (d : Nat)  (x : Nat → Nat → Int32) (w : Nat → Nat → Bool) (f : Nat → Nat → Nat) : pm_ev (pm_call pm_Tf sc (d + 4)) sc 0 pm_c21 58 [(1, .inl 1), (0, pm_r 29)] [] (pm_u x w f) = (if (x 29 5) = 0 then pm_ev (pm_call pm_Tf sc (d + 4)) sc 0 pm_c21 55 [(1, .inl 2), (0, pm_r 29)] [.inl 0, pm_r 36] (pm_u x w f) else pm_ev (pm_call pm_Tf sc (d + 4)) sc 0 pm_c21 44 [(1, .inl 2), (0, pm_r 29)] [.inl 2, pm_r 31, pm_r 36] (pm_u x w f)) := by
  exact (pm_ev_iter [11, 15, 44, 55, 64, 74] 3000 _ _ _ _).trans rfl
theorem s21a_58_1_1 {sc : pm_Sc} (d : Nat)  (x : Nat → Nat → Int32) (w : Nat → Nat → Bool) (f : Nat → Nat → Nat) : pm_ev (pm_call pm_Tf sc (d + 4)) sc 0 pm_c21 44 [(1, .inl 2), (0, pm_r 29)] [.inl 2, pm_r 31, pm_r 36] (pm_u x w f) = pm_call1 (fun v u => pm_ev (pm_call pm_Tf sc (d + 4)) sc 0 pm_c21 47 [(1, .inl 2), (0, pm_r 29)] (v.toList ++ [pm_r 36]) u) none ((pm_call pm_Tf sc (d + 4)) 3 [pm_r 31, .inl 2] (pm_u x w f)) := by
  exact (pm_ev_step _ _ _ _).trans rfl
theorem s21a_58_1_2 {sc : pm_Sc} (d : Nat)  (x : Nat → Nat → Int32) (w : Nat → Nat → Bool) (f : Nat → Nat → Nat) : pm_ev (pm_call pm_Tf sc (d + 4)) sc 0 pm_c21 47 [(1, .inl 2), (0, pm_r 29)] [pm_b (q3 31 2 x w f), pm_r 36] (pm_u x w f) = (if (q3 31 2 x w f) = true then pm_ev (pm_call pm_Tf sc (d + 4)) sc 0 pm_c21 55 [(1, .inl 2), (0, pm_r 29)] [.inl 0, pm_r 36] (pm_u x w f) else pm_ev (pm_call pm_Tf sc (d + 4)) sc 0 pm_c21 55 [(1, .inl 2), (0, pm_r 29)] [.inl 1, pm_r 36] (pm_u x w f)) := by
  exact (pm_ev_iter [11, 15, 44, 55, 64, 74] 3000 _ _ _ _).trans rfl
def q21a_58_1 (x : Nat → Nat → Int32) (w : Nat → Nat → Bool) (f : Nat → Nat → Nat) : (Nat → Nat → Int32) × (Nat → Nat → Bool) := (if (x 29 5) = 0 then q21a_55_2 false x w f else (if (q3 31 2 x w f) = true then q21a_55_2 false x w f else q21a_55_2 true x w f))
theorem e21a_58_1 {sc : pm_Sc} (d : Nat)  (x : Nat → Nat → Int32) (w : Nat → Nat → Bool) (f : Nat → Nat → Nat) : pm_ev (pm_call pm_Tf sc (d + 4)) sc 0 pm_c21 58 [(1, .inl 1), (0, pm_r 29)] [] (pm_u x w f) = pm_ev (pm_call pm_Tf sc (d + 4)) sc 0 pm_c21 64 [(1, .inl 8), (0, pm_r 29)] [] (pm_u (q21a_58_1 x w f).1 (q21a_58_1 x w f).2 f) := (s21a_58_1_0 d  x w f).trans (pm_iteG (g := (fun (t : (Nat → Nat → Int32) × (Nat → Nat → Bool)) => pm_ev (pm_call pm_Tf sc (d + 4)) sc 0 pm_c21 64 [(1, .inl 8), (0, pm_r 29)] [] (pm_u t.1 t.2 f))) (fun _ => e21a_55_2 d  false x w f) (fun _ => ((s21a_58_1_1 d  x w f).trans ((pm_call1_of (z3 (d + 4) 31 2 x w f (by decide))).trans ((s21a_58_1_2 d  x w f).trans (pm_iteG (g := (fun (t : (Nat → Nat → Int32) × (Nat → Nat → Bool)) => pm_ev (pm_call pm_Tf sc (d + 4)) sc 0 pm_c21 64 [(1, .inl 8), (0, pm_r 29)] [] (pm_u t.1 t.2 f))) (fun _ => e21a_55_2 d  false x w f) (fun _ => e21a_55_2 d  true x w f)))))))
theorem s21a_55_1_0 {sc : pm_Sc} (d : Nat) (b0 : Bool) (x : Nat → Nat → Int32) (w : Nat → Nat → Bool) (f : Nat → Nat → Nat) : pm_ev (pm_call pm_Tf sc (d + 4)) sc 0 pm_c21 55 [(1, .inl 1), (0, pm_r 29)] [pm_bi b0, pm_r 34] (pm_u x w f) = pm_call1 (fun v u => pm_ev (pm_call pm_Tf sc (d + 4)) sc 0 pm_c21 58 [(1, .inl 1), (0, pm_r 29)] (v.toList ++ []) u) none ((pm_call pm_Tf sc (d + 4)) 7 [pm_r 34, pm_bi b0] (pm_u x w f)) := by
  cases b0 <;> exact (pm_ev_step _ _ _ _).trans rfl
def q21a_55_1 (b0 : Bool) (x : Nat → Nat → Int32) (w : Nat → Nat → Bool) (f : Nat → Nat → Nat) : (Nat → Nat → Int32) × (Nat → Nat → Bool) := q21a_58_1 ((q7 34 b0 x w f).1) ((q7 34 b0 x w f).2) f
theorem e21a_55_1 {sc : pm_Sc} (d : Nat) (b0 : Bool) (x : Nat → Nat → Int32) (w : Nat → Nat → Bool) (f : Nat → Nat → Nat) : pm_ev (pm_call pm_Tf sc (d + 4)) sc 0 pm_c21 55 [(1, .inl 1), (0, pm_r 29)] [pm_bi b0, pm_r 34] (pm_u x w f) = pm_ev (pm_call pm_Tf sc (d + 4)) sc 0 pm_c21 64 [(1, .inl 8), (0, pm_r 29)] [] (pm_u (q21a_55_1 b0 x w f).1 (q21a_55_1 b0 x w f).2 f) := ((s21a_55_1_0 d b0 x w f).trans ((pm_call1_of (z7 (d + 2) 34 b0 x w f (by decide))).trans (e21a_58_1 d  ((q7 34 b0 x w f).1) ((q7 34 b0 x w f).2) f)))
theorem s21a_58_0 {sc : pm_Sc} (d : Nat)  (x : Nat → Nat → Int32) (w : Nat → Nat → Bool) (f : Nat → Nat → Nat) : pm_ev (pm_call pm_Tf sc (d + 4)) sc 0 pm_c21 58 [(1, .inl 0), (0, pm_r 29)] [] (pm_u x w f) = (if (x 29 5) = 0 then pm_ev (pm_call pm_Tf sc (d + 4)) sc 0 pm_c21 55 [(1, .inl 1), (0, pm_r 29)] [.inl 0, pm_r 34] (pm_u x w f) else pm_ev (pm_call pm_Tf sc (d + 4)) sc 0 pm_c21 44 [(1, .inl 1), (0, pm_r 29)] [.inl 1, pm_r 31, pm_r 34] (pm_u x w f)) := by
  exact (pm_ev_iter [11, 15, 44, 55, 64, 74] 3000 _ _ _ _).trans rfl
theorem s21a_58_1 {sc : pm_Sc} (d : Nat)  (x : Nat → Nat → Int32) (w : Nat → Nat → Bool) (f : Nat → Nat → Nat) : pm_ev (pm_call pm_Tf sc (d + 4)) sc 0 pm_c21 44 [(1, .inl 1), (0, pm_r 29)] [.inl 1, pm_r 31, pm_r 34] (pm_u x w f) = pm_call1 (fun v u => pm_ev (pm_call pm_Tf sc (d + 4)) sc 0 pm_c21 47 [(1, .inl 1), (0, pm_r 29)] (v.toList ++ [pm_r 34]) u) none ((pm_call pm_Tf sc (d + 4)) 3 [pm_r 31, .inl 1] (pm_u x w f)) := by
  exact (pm_ev_step _ _ _ _).trans rfl
theorem s21a_58_2 {sc : pm_Sc} (d : Nat)  (x : Nat → Nat → Int32) (w : Nat → Nat → Bool) (f : Nat → Nat → Nat) : pm_ev (pm_call pm_Tf sc (d + 4)) sc 0 pm_c21 47 [(1, .inl 1), (0, pm_r 29)] [pm_b (q3 31 1 x w f), pm_r 34] (pm_u x w f) = (if (q3 31 1 x w f) = true then pm_ev (pm_call pm_Tf sc (d + 4)) sc 0 pm_c21 55 [(1, .inl 1), (0, pm_r 29)] [.inl 0, pm_r 34] (pm_u x w f) else pm_ev (pm_call pm_Tf sc (d + 4)) sc 0 pm_c21 55 [(1, .inl 1), (0, pm_r 29)] [.inl 1, pm_r 34] (pm_u x w f)) := by
  exact (pm_ev_iter [11, 15, 44, 55, 64, 74] 3000 _ _ _ _).trans rfl
def q21a_58 (x : Nat → Nat → Int32) (w : Nat → Nat → Bool) (f : Nat → Nat → Nat) : (Nat → Nat → Int32) × (Nat → Nat → Bool) := (if (x 29 5) = 0 then q21a_55_1 false x w f else (if (q3 31 1 x w f) = true then q21a_55_1 false x w f else q21a_55_1 true x w f))
theorem e21a_58 {sc : pm_Sc} (d : Nat)  (x : Nat → Nat → Int32) (w : Nat → Nat → Bool) (f : Nat → Nat → Nat) : pm_ev (pm_call pm_Tf sc (d + 4)) sc 0 pm_c21 58 [(1, .inl 0), (0, pm_r 29)] [] (pm_u x w f) = pm_ev (pm_call pm_Tf sc (d + 4)) sc 0 pm_c21 64 [(1, .inl 8), (0, pm_r 29)] [] (pm_u (q21a_58 x w f).1 (q21a_58 x w f).2 f) := (s21a_58_0 d  x w f).trans (pm_iteG (g := (fun (t : (Nat → Nat → Int32) × (Nat → Nat → Bool)) => pm_ev (pm_call pm_Tf sc (d + 4)) sc 0 pm_c21 64 [(1, .inl 8), (0, pm_r 29)] [] (pm_u t.1 t.2 f))) (fun _ => e21a_55_1 d  false x w f) (fun _ => ((s21a_58_1 d  x w f).trans ((pm_call1_of (z3 (d + 4) 31 1 x w f (by decide))).trans ((s21a_58_2 d  x w f).trans (pm_iteG (g := (fun (t : (Nat → Nat → Int32) × (Nat → Nat → Bool)) => pm_ev (pm_call pm_Tf sc (d + 4)) sc 0 pm_c21 64 [(1, .inl 8), (0, pm_r 29)] [] (pm_u t.1 t.2 f))) (fun _ => e21a_55_1 d  false x w f) (fun _ => e21a_55_1 d  true x w f)))))))
theorem s21a_55_0 {sc : pm_Sc} (d : Nat) (b0 : Bool) (x : Nat → Nat → Int32) (w : Nat → Nat → Bool) (f : Nat → Nat → Nat) : pm_ev (pm_call pm_Tf sc (d + 4)) sc 0 pm_c21 55 [(1, .inl 0), (0, pm_r 29)] [pm_bi b0, pm_r 32] (pm_u x w f) = pm_call1 (fun v u => pm_ev (pm_call pm_Tf sc (d + 4)) sc 0 pm_c21 58 [(1, .inl 0), (0, pm_r 29)] (v.toList ++ []) u) none ((pm_call pm_Tf sc (d + 4)) 7 [pm_r 32, pm_bi b0] (pm_u x w f)) := by
  cases b0 <;> exact (pm_ev_step _ _ _ _).trans rfl
def q21a_55 (b0 : Bool) (x : Nat → Nat → Int32) (w : Nat → Nat → Bool) (f : Nat → Nat → Nat) : (Nat → Nat → Int32) × (Nat → Nat → Bool) := q21a_58 ((q7 32 b0 x w f).1) ((q7 32 b0 x w f).2) f
theorem e21a_55 {sc : pm_Sc} (d : Nat) (b0 : Bool) (x : Nat → Nat → Int32) (w : Nat → Nat → Bool) (f : Nat → Nat → Nat) : pm_ev (pm_call pm_Tf sc (d + 4)) sc 0 pm_c21 55 [(1, .inl 0), (0, pm_r 29)] [pm_bi b0, pm_r 32] (pm_u x w f) = pm_ev (pm_call pm_Tf sc (d + 4)) sc 0 pm_c21 64 [(1, .inl 8), (0, pm_r 29)] [] (pm_u (q21a_55 b0 x w f).1 (q21a_55 b0 x w f).2 f) := ((s21a_55_0 d b0 x w f).trans ((pm_call1_of (z7 (d + 2) 32 b0 x w f (by decide))).trans (e21a_58 d  ((q7 32 b0 x w f).1) ((q7 32 b0 x w f).2) f)))
theorem s21a_18_0 {sc : pm_Sc} (d : Nat)  (x : Nat → Nat → Int32) (w : Nat → Nat → Bool) (f : Nat → Nat → Nat) : pm_ev (pm_call pm_Tf sc (d + 4)) sc 0 pm_c21 18 [(0, pm_r 29)] [] (pm_u x w f) = (if (x 29 5) = 0 then pm_ev (pm_call pm_Tf sc (d + 4)) sc 0 pm_c21 55 [(1, .inl 0), (0, pm_r 29)] [.inl 0, pm_r 32] (pm_u x w f) else pm_ev (pm_call pm_Tf sc (d + 4)) sc 0 pm_c21 44 [(1, .inl 0), (0, pm_r 29)] [.inl 0, pm_r 31, pm_r 32] (pm_u x w f)) := by
  exact (pm_ev_iter [11, 15, 44, 55, 64, 74] 3000 _ _ _ _).trans rfl
theorem s21a_18_1 {sc : pm_Sc} (d : Nat)  (x : Nat → Nat → Int32) (w : Nat → Nat → Bool) (f : Nat → Nat → Nat) : pm_ev (pm_call pm_Tf sc (d + 4)) sc 0 pm_c21 44 [(1, .inl 0), (0, pm_r 29)] [.inl 0, pm_r 31, pm_r 32] (pm_u x w f) = pm_call1 (fun v u => pm_ev (pm_call pm_Tf sc (d + 4)) sc 0 pm_c21 47 [(1, .inl 0), (0, pm_r 29)] (v.toList ++ [pm_r 32]) u) none ((pm_call pm_Tf sc (d + 4)) 3 [pm_r 31, .inl 0] (pm_u x w f)) := by
  exact (pm_ev_step _ _ _ _).trans rfl
theorem s21a_18_2 {sc : pm_Sc} (d : Nat)  (x : Nat → Nat → Int32) (w : Nat → Nat → Bool) (f : Nat → Nat → Nat) : pm_ev (pm_call pm_Tf sc (d + 4)) sc 0 pm_c21 47 [(1, .inl 0), (0, pm_r 29)] [pm_b (q3 31 0 x w f), pm_r 32] (pm_u x w f) = (if (q3 31 0 x w f) = true then pm_ev (pm_call pm_Tf sc (d + 4)) sc 0 pm_c21 55 [(1, .inl 0), (0, pm_r 29)] [.inl 0, pm_r 32] (pm_u x w f) else pm_ev (pm_call pm_Tf sc (d + 4)) sc 0 pm_c21 55 [(1, .inl 0), (0, pm_r 29)] [.inl 1, pm_r 32] (pm_u x w f)) := by
  exact (pm_ev_iter [11, 15, 44, 55, 64, 74] 3000 _ _ _ _).trans rfl
def q21a_18 (x : Nat → Nat → Int32) (w : Nat → Nat → Bool) (f : Nat → Nat → Nat) : (Nat → Nat → Int32) × (Nat → Nat → Bool) := (if (x 29 5) = 0 then q21a_55 false x w f else (if (q3 31 0 x w f) = true then q21a_55 false x w f else q21a_55 true x w f))
theorem e21a_18 {sc : pm_Sc} (d : Nat)  (x : Nat → Nat → Int32) (w : Nat → Nat → Bool) (f : Nat → Nat → Nat) : pm_ev (pm_call pm_Tf sc (d + 4)) sc 0 pm_c21 18 [(0, pm_r 29)] [] (pm_u x w f) = pm_ev (pm_call pm_Tf sc (d + 4)) sc 0 pm_c21 64 [(1, .inl 8), (0, pm_r 29)] [] (pm_u (q21a_18 x w f).1 (q21a_18 x w f).2 f) := (s21a_18_0 d  x w f).trans (pm_iteG (g := (fun (t : (Nat → Nat → Int32) × (Nat → Nat → Bool)) => pm_ev (pm_call pm_Tf sc (d + 4)) sc 0 pm_c21 64 [(1, .inl 8), (0, pm_r 29)] [] (pm_u t.1 t.2 f))) (fun _ => e21a_55 d  false x w f) (fun _ => ((s21a_18_1 d  x w f).trans ((pm_call1_of (z3 (d + 4) 31 0 x w f (by decide))).trans ((s21a_18_2 d  x w f).trans (pm_iteG (g := (fun (t : (Nat → Nat → Int32) × (Nat → Nat → Bool)) => pm_ev (pm_call pm_Tf sc (d + 4)) sc 0 pm_c21 64 [(1, .inl 8), (0, pm_r 29)] [] (pm_u t.1 t.2 f))) (fun _ => e21a_55 d  false x w f) (fun _ => e21a_55 d  true x w f)))))))
theorem s21a_14_0 {sc : pm_Sc} (d : Nat)  (x : Nat → Nat → Int32) (w : Nat → Nat → Bool) (f : Nat → Nat → Nat) : pm_ev (pm_call pm_Tf sc (d + 4)) sc 0 pm_c21 14 [(0, pm_r 29)] [] (pm_u x w f) = pm_ev (pm_call pm_Tf sc (d + 4)) sc 0 pm_c21 15 [(0, pm_r 29)] [pm_r 29] (pm_u x w f) := by
  exact (pm_ev_iter [11, 15, 44, 55, 64, 74] 3000 _ _ _ _).trans rfl
theorem s21a_14_1 {sc : pm_Sc} (d : Nat)  (x : Nat → Nat → Int32) (w : Nat → Nat → Bool) (f : Nat → Nat → Nat) : pm_ev (pm_call pm_Tf sc (d + 4)) sc 0 pm_c21 15 [(0, pm_r 29)] [pm_r 29] (pm_u x w f) = pm_call1 (fun v u => pm_ev (pm_call pm_Tf sc (d + 4)) sc 0 pm_c21 18 [(0, pm_r 29)] (v.toList ++ []) u) none ((pm_call pm_Tf sc (d + 4)) 22 [pm_r 29] (pm_u x w f)) := by
  exact (pm_ev_step _ _ _ _).trans rfl
def q21a_14 (x : Nat → Nat → Int32) (w : Nat → Nat → Bool) (f : Nat → Nat → Nat) : (Nat → Nat → Int32) × (Nat → Nat → Bool) := q21a_18 ((q22a x w f).1) ((q22a x w f).2) f
theorem e21a_14 {sc : pm_Sc} (d : Nat)  (x : Nat → Nat → Int32) (w : Nat → Nat → Bool) (f : Nat → Nat → Nat) : pm_ev (pm_call pm_Tf sc (d + 4)) sc 0 pm_c21 14 [(0, pm_r 29)] [] (pm_u x w f) = pm_ev (pm_call pm_Tf sc (d + 4)) sc 0 pm_c21 64 [(1, .inl 8), (0, pm_r 29)] [] (pm_u (q21a_14 x w f).1 (q21a_14 x w f).2 f) := (s21a_14_0 d  x w f).trans (((s21a_14_1 d  x w f).trans ((pm_call1_of (z22a (d + 1) x w f)).trans (e21a_18 d  ((q22a x w f).1) ((q22a x w f).2) f))))
theorem s21a_0 {sc : pm_Sc} (d : Nat)  (x : Nat → Nat → Int32) (w : Nat → Nat → Bool) (f : Nat → Nat → Nat) : pm_ev (pm_call pm_Tf sc (d + 4)) sc 0 pm_c21 0 [(0, pm_r 29)] [] (pm_u x w f) = pm_ev (pm_call pm_Tf sc (d + 4)) sc 0 pm_c21 11 [(0, pm_r 29)] [pm_r 29] (pm_u (pm_up x 29 4 ((x 29 4) + (1 : Int32))) w f) := by
  exact (pm_ev_iter [11, 15, 44, 55, 64, 74] 3000 _ _ _ _).trans rfl
theorem s21a_1 {sc : pm_Sc} (d : Nat)  (x : Nat → Nat → Int32) (w : Nat → Nat → Bool) (f : Nat → Nat → Nat) : pm_ev (pm_call pm_Tf sc (d + 4)) sc 0 pm_c21 11 [(0, pm_r 29)] [pm_r 29] (pm_u (pm_up x 29 4 ((x 29 4) + (1 : Int32))) w f) = pm_call1 (fun v u => pm_ev (pm_call pm_Tf sc (d + 4)) sc 0 pm_c21 14 [(0, pm_r 29)] (v.toList ++ []) u) none ((pm_call pm_Tf sc (d + 4)) 33 [pm_r 29] (pm_u (pm_up x 29 4 ((x 29 4) + (1 : Int32))) w f)) := by
  exact (pm_ev_step _ _ _ _).trans rfl
def q21a (x : Nat → Nat → Int32) (w : Nat → Nat → Bool) (f : Nat → Nat → Nat) : (Nat → Nat → Int32) × (Nat → Nat → Bool) := q21a_14 ((q33a (pm_up x 29 4 ((x 29 4) + (1 : Int32))) w f).1) ((q33a (pm_up x 29 4 ((x 29 4) + (1 : Int32))) w f).2) f
theorem e21a {sc : pm_Sc} (d : Nat)  (x : Nat → Nat → Int32) (w : Nat → Nat → Bool) (f : Nat → Nat → Nat) : pm_ev (pm_call pm_Tf sc (d + 4)) sc 0 pm_c21 0 [(0, pm_r 29)] [] (pm_u x w f) = pm_ev (pm_call pm_Tf sc (d + 4)) sc 0 pm_c21 64 [(1, .inl 8), (0, pm_r 29)] [] (pm_u (q21a x w f).1 (q21a x w f).2 f) := (s21a_0 d  x w f).trans (((s21a_1 d  x w f).trans ((pm_call1_of (z33a (d + 4) (pm_up x 29 4 ((x 29 4) + (1 : Int32))) w f)).trans (e21a_14 d  ((q33a (pm_up x 29 4 ((x 29 4) + (1 : Int32))) w f).1) ((q33a (pm_up x 29 4 ((x 29 4) + (1 : Int32))) w f).2) f))))
theorem s20a_30_0 {sc : pm_Sc} (d : Nat)  (x : Nat → Nat → Int32) (w : Nat → Nat → Bool) (f : Nat → Nat → Nat) : pm_ev (pm_call pm_Tf sc (d + 0)) sc 0 pm_c20 30 [(1, .inl 8), (0, pm_r 29)] [] (pm_u x w f) = some (none, pm_u (pm_up (pm_up (pm_up (pm_up (pm_up (pm_up x 1 1 0) 29 4 0) 29 5 0) 29 6 0) 29 7 0) 29 8 0) w f) := by
  exact (pm_ev_iter [14, 27] 3000 _ _ _ _).trans rfl
def q20a_30 (x : Nat → Nat → Int32) (w : Nat → Nat → Bool) (f : Nat → Nat → Nat) : (Nat → Nat → Int32) × (Nat → Nat → Bool) := (pm_up (pm_up (pm_up (pm_up (pm_up (pm_up x 1 1 0) 29 4 0) 29 5 0) 29 6 0) 29 7 0) 29 8 0, w)
theorem e20a_30 {sc : pm_Sc} (d : Nat)  (x : Nat → Nat → Int32) (w : Nat → Nat → Bool) (f : Nat → Nat → Nat) : pm_ev (pm_call pm_Tf sc (d + 0)) sc 0 pm_c20 30 [(1, .inl 8), (0, pm_r 29)] [] (pm_u x w f) = some (pm_h0 f (q20a_30 x w f)) := (s20a_30_0 d  x w f).trans (rfl)
theorem s20a_17_7_0 {sc : pm_Sc} (d : Nat)  (x : Nat → Nat → Int32) (w : Nat → Nat → Bool) (f : Nat → Nat → Nat) : pm_ev (pm_call pm_Tf sc (d + 0)) sc 0 pm_c20 17 [(1, .inl 7), (0, pm_r 29)] [] (pm_u x w f) = pm_ev (pm_call pm_Tf sc (d + 0)) sc 0 pm_c20 27 [(1, .inl 8), (0, pm_r 29)] [pm_r 31] (pm_u x w f) := by
  exact (pm_ev_iter [14, 27] 3000 _ _ _ _).trans rfl
theorem s20a_17_7_1 {sc : pm_Sc} (d : Nat)  (x : Nat → Nat → Int32) (w : Nat → Nat → Bool) (f : Nat → Nat → Nat) : pm_ev (pm_call pm_Tf sc (d + 0)) sc 0 pm_c20 27 [(1, .inl 8), (0, pm_r 29)] [pm_r 31] (pm_u x w f) = pm_call1 (fun v u => pm_ev (pm_call pm_Tf sc (d + 0)) sc 0 pm_c20 30 [(1, .inl 8), (0, pm_r 29)] (v.toList ++ []) u) none ((pm_call pm_Tf sc (d + 0)) 1 [pm_r 31] (pm_u x w f)) := by
  exact (pm_ev_step _ _ _ _).trans rfl
def q20a_17_7 (x : Nat → Nat → Int32) (w : Nat → Nat → Bool) (f : Nat → Nat → Nat) : (Nat → Nat → Int32) × (Nat → Nat → Bool) := q20a_30 ((q1 31 x w f).1) ((q1 31 x w f).2) f
theorem e20a_17_7 {sc : pm_Sc} (d : Nat)  (x : Nat → Nat → Int32) (w : Nat → Nat → Bool) (f : Nat → Nat → Nat) : pm_ev (pm_call pm_Tf sc (d + 0)) sc 0 pm_c20 17 [(1, .inl 7), (0, pm_r 29)] [] (pm_u x w f) = some (pm_h0 f (q20a_17_7 x w f)) := (s20a_17_7_0 d  x w f).trans (((s20a_17_7_1 d  x w f).trans ((pm_call1_of (z1 (d + 0) 31 x w f (by decide))).trans (e20a_30 d  ((q1 31 x w f).1) ((q1 31 x w f).2) f))))
theorem s20a_17_6_0 {sc : pm_Sc} (d : Nat)  (x : Nat → Nat → Int32) (w : Nat → Nat → Bool) (f : Nat → Nat → Nat) : pm_ev (pm_call pm_Tf sc (d + 0)) sc 0 pm_c20 17 [(1, .inl 6), (0, pm_r 29)] [] (pm_u x w f) = pm_ev (pm_call pm_Tf sc (d + 0)) sc 0 pm_c20 14 [(1, .inl 7), (0, pm_r 29)] [pm_r 46] (pm_u x w f) := by
  exact (pm_ev_iter [14, 27] 3000 _ _ _ _).trans rfl
theorem s20a_17_6_1 {sc : pm_Sc} (d : Nat)  (x : Nat → Nat → Int32) (w : Nat → Nat → Bool) (f : Nat → Nat → Nat) : pm_ev (pm_call pm_Tf sc (d + 0)) sc 0 pm_c20 14 [(1, .inl 7), (0, pm_r 29)] [pm_r 46] (pm_u x w f) = pm_call1 (fun v u => pm_ev (pm_call pm_Tf sc (d + 0)) sc 0 pm_c20 17 [(1, .inl 7), (0, pm_r 29)] (v.toList ++ []) u) none ((pm_call pm_Tf sc (d + 0)) 6 [pm_r 46] (pm_u x w f)) := by
  exact (pm_ev_step _ _ _ _).trans rfl
def q20a_17_6 (x : Nat → Nat → Int32) (w : Nat → Nat → Bool) (f : Nat → Nat → Nat) : (Nat → Nat → Int32) × (Nat → Nat → Bool) := q20a_17_7 ((q6 46 x w f).1) ((q6 46 x w f).2) f
theorem e20a_17_6 {sc : pm_Sc} (d : Nat)  (x : Nat → Nat → Int32) (w : Nat → Nat → Bool) (f : Nat → Nat → Nat) : pm_ev (pm_call pm_Tf sc (d + 0)) sc 0 pm_c20 17 [(1, .inl 6), (0, pm_r 29)] [] (pm_u x w f) = some (pm_h0 f (q20a_17_6 x w f)) := (s20a_17_6_0 d  x w f).trans (((s20a_17_6_1 d  x w f).trans ((pm_call1_of (z6 (d + 0) 46 x w f (by decide))).trans (e20a_17_7 d  ((q6 46 x w f).1) ((q6 46 x w f).2) f))))
theorem s20a_17_5_0 {sc : pm_Sc} (d : Nat)  (x : Nat → Nat → Int32) (w : Nat → Nat → Bool) (f : Nat → Nat → Nat) : pm_ev (pm_call pm_Tf sc (d + 0)) sc 0 pm_c20 17 [(1, .inl 5), (0, pm_r 29)] [] (pm_u x w f) = pm_ev (pm_call pm_Tf sc (d + 0)) sc 0 pm_c20 14 [(1, .inl 6), (0, pm_r 29)] [pm_r 44] (pm_u x w f) := by
  exact (pm_ev_iter [14, 27] 3000 _ _ _ _).trans rfl
theorem s20a_17_5_1 {sc : pm_Sc} (d : Nat)  (x : Nat → Nat → Int32) (w : Nat → Nat → Bool) (f : Nat → Nat → Nat) : pm_ev (pm_call pm_Tf sc (d + 0)) sc 0 pm_c20 14 [(1, .inl 6), (0, pm_r 29)] [pm_r 44] (pm_u x w f) = pm_call1 (fun v u => pm_ev (pm_call pm_Tf sc (d + 0)) sc 0 pm_c20 17 [(1, .inl 6), (0, pm_r 29)] (v.toList ++ []) u) none ((pm_call pm_Tf sc (d + 0)) 6 [pm_r 44] (pm_u x w f)) := by
  exact (pm_ev_step _ _ _ _).trans rfl
def q20a_17_5 (x : Nat → Nat → Int32) (w : Nat → Nat → Bool) (f : Nat → Nat → Nat) : (Nat → Nat → Int32) × (Nat → Nat → Bool) := q20a_17_6 ((q6 44 x w f).1) ((q6 44 x w f).2) f
theorem e20a_17_5 {sc : pm_Sc} (d : Nat)  (x : Nat → Nat → Int32) (w : Nat → Nat → Bool) (f : Nat → Nat → Nat) : pm_ev (pm_call pm_Tf sc (d + 0)) sc 0 pm_c20 17 [(1, .inl 5), (0, pm_r 29)] [] (pm_u x w f) = some (pm_h0 f (q20a_17_5 x w f)) := (s20a_17_5_0 d  x w f).trans (((s20a_17_5_1 d  x w f).trans ((pm_call1_of (z6 (d + 0) 44 x w f (by decide))).trans (e20a_17_6 d  ((q6 44 x w f).1) ((q6 44 x w f).2) f))))
theorem s20a_17_4_0 {sc : pm_Sc} (d : Nat)  (x : Nat → Nat → Int32) (w : Nat → Nat → Bool) (f : Nat → Nat → Nat) : pm_ev (pm_call pm_Tf sc (d + 0)) sc 0 pm_c20 17 [(1, .inl 4), (0, pm_r 29)] [] (pm_u x w f) = pm_ev (pm_call pm_Tf sc (d + 0)) sc 0 pm_c20 14 [(1, .inl 5), (0, pm_r 29)] [pm_r 42] (pm_u x w f) := by
  exact (pm_ev_iter [14, 27] 3000 _ _ _ _).trans rfl
theorem s20a_17_4_1 {sc : pm_Sc} (d : Nat)  (x : Nat → Nat → Int32) (w : Nat → Nat → Bool) (f : Nat → Nat → Nat) : pm_ev (pm_call pm_Tf sc (d + 0)) sc 0 pm_c20 14 [(1, .inl 5), (0, pm_r 29)] [pm_r 42] (pm_u x w f) = pm_call1 (fun v u => pm_ev (pm_call pm_Tf sc (d + 0)) sc 0 pm_c20 17 [(1, .inl 5), (0, pm_r 29)] (v.toList ++ []) u) none ((pm_call pm_Tf sc (d + 0)) 6 [pm_r 42] (pm_u x w f)) := by
  exact (pm_ev_step _ _ _ _).trans rfl
def q20a_17_4 (x : Nat → Nat → Int32) (w : Nat → Nat → Bool) (f : Nat → Nat → Nat) : (Nat → Nat → Int32) × (Nat → Nat → Bool) := q20a_17_5 ((q6 42 x w f).1) ((q6 42 x w f).2) f
theorem e20a_17_4 {sc : pm_Sc} (d : Nat)  (x : Nat → Nat → Int32) (w : Nat → Nat → Bool) (f : Nat → Nat → Nat) : pm_ev (pm_call pm_Tf sc (d + 0)) sc 0 pm_c20 17 [(1, .inl 4), (0, pm_r 29)] [] (pm_u x w f) = some (pm_h0 f (q20a_17_4 x w f)) := (s20a_17_4_0 d  x w f).trans (((s20a_17_4_1 d  x w f).trans ((pm_call1_of (z6 (d + 0) 42 x w f (by decide))).trans (e20a_17_5 d  ((q6 42 x w f).1) ((q6 42 x w f).2) f))))
theorem s20a_17_3_0 {sc : pm_Sc} (d : Nat)  (x : Nat → Nat → Int32) (w : Nat → Nat → Bool) (f : Nat → Nat → Nat) : pm_ev (pm_call pm_Tf sc (d + 0)) sc 0 pm_c20 17 [(1, .inl 3), (0, pm_r 29)] [] (pm_u x w f) = pm_ev (pm_call pm_Tf sc (d + 0)) sc 0 pm_c20 14 [(1, .inl 4), (0, pm_r 29)] [pm_r 40] (pm_u x w f) := by
  exact (pm_ev_iter [14, 27] 3000 _ _ _ _).trans rfl
theorem s20a_17_3_1 {sc : pm_Sc} (d : Nat)  (x : Nat → Nat → Int32) (w : Nat → Nat → Bool) (f : Nat → Nat → Nat) : pm_ev (pm_call pm_Tf sc (d + 0)) sc 0 pm_c20 14 [(1, .inl 4), (0, pm_r 29)] [pm_r 40] (pm_u x w f) = pm_call1 (fun v u => pm_ev (pm_call pm_Tf sc (d + 0)) sc 0 pm_c20 17 [(1, .inl 4), (0, pm_r 29)] (v.toList ++ []) u) none ((pm_call pm_Tf sc (d + 0)) 6 [pm_r 40] (pm_u x w f)) := by
  exact (pm_ev_step _ _ _ _).trans rfl
def q20a_17_3 (x : Nat → Nat → Int32) (w : Nat → Nat → Bool) (f : Nat → Nat → Nat) : (Nat → Nat → Int32) × (Nat → Nat → Bool) := q20a_17_4 ((q6 40 x w f).1) ((q6 40 x w f).2) f
theorem e20a_17_3 {sc : pm_Sc} (d : Nat)  (x : Nat → Nat → Int32) (w : Nat → Nat → Bool) (f : Nat → Nat → Nat) : pm_ev (pm_call pm_Tf sc (d + 0)) sc 0 pm_c20 17 [(1, .inl 3), (0, pm_r 29)] [] (pm_u x w f) = some (pm_h0 f (q20a_17_3 x w f)) := (s20a_17_3_0 d  x w f).trans (((s20a_17_3_1 d  x w f).trans ((pm_call1_of (z6 (d + 0) 40 x w f (by decide))).trans (e20a_17_4 d  ((q6 40 x w f).1) ((q6 40 x w f).2) f))))
theorem s20a_17_2_0 {sc : pm_Sc} (d : Nat)  (x : Nat → Nat → Int32) (w : Nat → Nat → Bool) (f : Nat → Nat → Nat) : pm_ev (pm_call pm_Tf sc (d + 0)) sc 0 pm_c20 17 [(1, .inl 2), (0, pm_r 29)] [] (pm_u x w f) = pm_ev (pm_call pm_Tf sc (d + 0)) sc 0 pm_c20 14 [(1, .inl 3), (0, pm_r 29)] [pm_r 38] (pm_u x w f) := by
  exact (pm_ev_iter [14, 27] 3000 _ _ _ _).trans rfl
theorem s20a_17_2_1 {sc : pm_Sc} (d : Nat)  (x : Nat → Nat → Int32) (w : Nat → Nat → Bool) (f : Nat → Nat → Nat) : pm_ev (pm_call pm_Tf sc (d + 0)) sc 0 pm_c20 14 [(1, .inl 3), (0, pm_r 29)] [pm_r 38] (pm_u x w f) = pm_call1 (fun v u => pm_ev (pm_call pm_Tf sc (d + 0)) sc 0 pm_c20 17 [(1, .inl 3), (0, pm_r 29)] (v.toList ++ []) u) none ((pm_call pm_Tf sc (d + 0)) 6 [pm_r 38] (pm_u x w f)) := by
  exact (pm_ev_step _ _ _ _).trans rfl
def q20a_17_2 (x : Nat → Nat → Int32) (w : Nat → Nat → Bool) (f : Nat → Nat → Nat) : (Nat → Nat → Int32) × (Nat → Nat → Bool) := q20a_17_3 ((q6 38 x w f).1) ((q6 38 x w f).2) f
theorem e20a_17_2 {sc : pm_Sc} (d : Nat)  (x : Nat → Nat → Int32) (w : Nat → Nat → Bool) (f : Nat → Nat → Nat) : pm_ev (pm_call pm_Tf sc (d + 0)) sc 0 pm_c20 17 [(1, .inl 2), (0, pm_r 29)] [] (pm_u x w f) = some (pm_h0 f (q20a_17_2 x w f)) := (s20a_17_2_0 d  x w f).trans (((s20a_17_2_1 d  x w f).trans ((pm_call1_of (z6 (d + 0) 38 x w f (by decide))).trans (e20a_17_3 d  ((q6 38 x w f).1) ((q6 38 x w f).2) f))))
theorem s20a_17_1_0 {sc : pm_Sc} (d : Nat)  (x : Nat → Nat → Int32) (w : Nat → Nat → Bool) (f : Nat → Nat → Nat) : pm_ev (pm_call pm_Tf sc (d + 0)) sc 0 pm_c20 17 [(1, .inl 1), (0, pm_r 29)] [] (pm_u x w f) = pm_ev (pm_call pm_Tf sc (d + 0)) sc 0 pm_c20 14 [(1, .inl 2), (0, pm_r 29)] [pm_r 36] (pm_u x w f) := by
  exact (pm_ev_iter [14, 27] 3000 _ _ _ _).trans rfl
theorem s20a_17_1_1 {sc : pm_Sc} (d : Nat)  (x : Nat → Nat → Int32) (w : Nat → Nat → Bool) (f : Nat → Nat → Nat) : pm_ev (pm_call pm_Tf sc (d + 0)) sc 0 pm_c20 14 [(1, .inl 2), (0, pm_r 29)] [pm_r 36] (pm_u x w f) = pm_call1 (fun v u => pm_ev (pm_call pm_Tf sc (d + 0)) sc 0 pm_c20 17 [(1, .inl 2), (0, pm_r 29)] (v.toList ++ []) u) none ((pm_call pm_Tf sc (d + 0)) 6 [pm_r 36] (pm_u x w f)) := by
  exact (pm_ev_step _ _ _ _).trans rfl
def q20a_17_1 (x : Nat → Nat → Int32) (w : Nat → Nat → Bool) (f : Nat → Nat → Nat) : (Nat → Nat → Int32) × (Nat → Nat → Bool) := q20a_17_2 ((q6 36 x w f).1) ((q6 36 x w f).2) f
theorem e20a_17_1 {sc : pm_Sc} (d : Nat)  (x : Nat → Nat → Int32) (w : Nat → Nat → Bool) (f : Nat → Nat → Nat) : pm_ev (pm_call pm_Tf sc (d + 0)) sc 0 pm_c20 17 [(1, .inl 1), (0, pm_r 29)] [] (pm_u x w f) = some (pm_h0 f (q20a_17_1 x w f)) := (s20a_17_1_0 d  x w f).trans (((s20a_17_1_1 d  x w f).trans ((pm_call1_of (z6 (d + 0) 36 x w f (by decide))).trans (e20a_17_2 d  ((q6 36 x w f).1) ((q6 36 x w f).2) f))))
theorem s20a_17_0 {sc : pm_Sc} (d : Nat)  (x : Nat → Nat → Int32) (w : Nat → Nat → Bool) (f : Nat → Nat → Nat) : pm_ev (pm_call pm_Tf sc (d + 0)) sc 0 pm_c20 17 [(1, .inl 0), (0, pm_r 29)] [] (pm_u x w f) = pm_ev (pm_call pm_Tf sc (d + 0)) sc 0 pm_c20 14 [(1, .inl 1), (0, pm_r 29)] [pm_r 34] (pm_u x w f) := by
  exact (pm_ev_iter [14, 27] 3000 _ _ _ _).trans rfl
theorem s20a_17_1 {sc : pm_Sc} (d : Nat)  (x : Nat → Nat → Int32) (w : Nat → Nat → Bool) (f : Nat → Nat → Nat) : pm_ev (pm_call pm_Tf sc (d + 0)) sc 0 pm_c20 14 [(1, .inl 1), (0, pm_r 29)] [pm_r 34] (pm_u x w f) = pm_call1 (fun v u => pm_ev (pm_call pm_Tf sc (d + 0)) sc 0 pm_c20 17 [(1, .inl 1), (0, pm_r 29)] (v.toList ++ []) u) none ((pm_call pm_Tf sc (d + 0)) 6 [pm_r 34] (pm_u x w f)) := by
  exact (pm_ev_step _ _ _ _).trans rfl
def q20a_17 (x : Nat → Nat → Int32) (w : Nat → Nat → Bool) (f : Nat → Nat → Nat) : (Nat → Nat → Int32) × (Nat → Nat → Bool) := q20a_17_1 ((q6 34 x w f).1) ((q6 34 x w f).2) f
theorem e20a_17 {sc : pm_Sc} (d : Nat)  (x : Nat → Nat → Int32) (w : Nat → Nat → Bool) (f : Nat → Nat → Nat) : pm_ev (pm_call pm_Tf sc (d + 0)) sc 0 pm_c20 17 [(1, .inl 0), (0, pm_r 29)] [] (pm_u x w f) = some (pm_h0 f (q20a_17 x w f)) := (s20a_17_0 d  x w f).trans (((s20a_17_1 d  x w f).trans ((pm_call1_of (z6 (d + 0) 34 x w f (by decide))).trans (e20a_17_1 d  ((q6 34 x w f).1) ((q6 34 x w f).2) f))))
theorem s20a_0 {sc : pm_Sc} (d : Nat)  (x : Nat → Nat → Int32) (w : Nat → Nat → Bool) (f : Nat → Nat → Nat) : pm_ev (pm_call pm_Tf sc (d + 0)) sc 0 pm_c20 0 [(0, pm_r 29)] [] (pm_u x w f) = pm_ev (pm_call pm_Tf sc (d + 0)) sc 0 pm_c20 14 [(1, .inl 0), (0, pm_r 29)] [pm_r 32] (pm_u x w f) := by
  exact (pm_ev_iter [14, 27] 3000 _ _ _ _).trans rfl
theorem s20a_1 {sc : pm_Sc} (d : Nat)  (x : Nat → Nat → Int32) (w : Nat → Nat → Bool) (f : Nat → Nat → Nat) : pm_ev (pm_call pm_Tf sc (d + 0)) sc 0 pm_c20 14 [(1, .inl 0), (0, pm_r 29)] [pm_r 32] (pm_u x w f) = pm_call1 (fun v u => pm_ev (pm_call pm_Tf sc (d + 0)) sc 0 pm_c20 17 [(1, .inl 0), (0, pm_r 29)] (v.toList ++ []) u) none ((pm_call pm_Tf sc (d + 0)) 6 [pm_r 32] (pm_u x w f)) := by
  exact (pm_ev_step _ _ _ _).trans rfl
def q20a (x : Nat → Nat → Int32) (w : Nat → Nat → Bool) (f : Nat → Nat → Nat) : (Nat → Nat → Int32) × (Nat → Nat → Bool) := q20a_17 ((q6 32 x w f).1) ((q6 32 x w f).2) f
theorem e20a {sc : pm_Sc} (d : Nat)  (x : Nat → Nat → Int32) (w : Nat → Nat → Bool) (f : Nat → Nat → Nat) : pm_ev (pm_call pm_Tf sc (d + 0)) sc 0 pm_c20 0 [(0, pm_r 29)] [] (pm_u x w f) = some (pm_h0 f (q20a x w f)) := (s20a_0 d  x w f).trans (((s20a_1 d  x w f).trans ((pm_call1_of (z6 (d + 0) 32 x w f (by decide))).trans (e20a_17 d  ((q6 32 x w f).1) ((q6 32 x w f).2) f))))
theorem z20a {sc : pm_Sc} (d : Nat) (x : Nat → Nat → Int32) (w : Nat → Nat → Bool) (f : Nat → Nat → Nat) : pm_call pm_Tf sc (d + 1) 20 [pm_r 29] (pm_u x w f) = some (pm_h0 f (q20a x w f)) := e20a d x w f
theorem s22b_0 {sc : pm_Sc} (d : Nat)  (x : Nat → Nat → Int32) (w : Nat → Nat → Bool) (f : Nat → Nat → Nat) : pm_ev (pm_call pm_Tf sc (d + 2)) sc 0 pm_c22 0 [(0, pm_r 48)] [] (pm_u x w f) = (if (x 48 5) = 0 then pm_ev (pm_call pm_Tf sc (d + 2)) sc 0 pm_c22 8 [(0, pm_r 48)] [pm_r 48] (pm_u x w f) else (if (x 48 5) = 1 then pm_ev (pm_call pm_Tf sc (d + 2)) sc 0 pm_c22 49 [(0, pm_r 48)] [pm_r 48] (pm_u x w f) else (if ((x 48 4) - (x 48 6)) < 150 then some (none, pm_u x w f) else some (none, pm_u (pm_up x 48 5 0) w f)))) := by
  exact (pm_ev_iter [8, 49] 3000 _ _ _ _).trans rfl
theorem s22b_1 {sc : pm_Sc} (d : Nat)  (x : Nat → Nat → Int32) (w : Nat → Nat → Bool) (f : Nat → Nat → Nat) : pm_ev (pm_call pm_Tf sc (d + 2)) sc 0 pm_c22 8 [(0, pm_r 48)] [pm_r 48] (pm_u x w f) = pm_call1 (fun v u => pm_ev (pm_call pm_Tf sc (d + 2)) sc 0 pm_c22 11 [(0, pm_r 48)] (v.toList ++ []) u) none ((pm_call pm_Tf sc (d + 2)) 42 [pm_r 48] (pm_u x w f)) := by
  exact (pm_ev_step _ _ _ _).trans rfl
theorem s22b_2 {sc : pm_Sc} (d : Nat)  (x : Nat → Nat → Int32) (w : Nat → Nat → Bool) (f : Nat → Nat → Nat) : pm_ev (pm_call pm_Tf sc (d + 2)) sc 0 pm_c22 11 [(0, pm_r 48)] [pm_b (q42b x w f)] (pm_u x w f) = (if (q42b x w f) = true then some (none, pm_u (pm_up (pm_up (pm_up x 48 5 1) 48 7 (x 48 4)) 48 8 ((x 48 8) + (1 : Int32))) w f) else some (none, pm_u x w f)) := by
  exact (pm_ev_iter [8, 49] 3000 _ _ _ _).trans rfl
theorem s22b_3 {sc : pm_Sc} (d : Nat)  (x : Nat → Nat → Int32) (w : Nat → Nat → Bool) (f : Nat → Nat → Nat) : pm_ev (pm_call pm_Tf sc (d + 2)) sc 0 pm_c22 49 [(0, pm_r 48)] [pm_r 48] (pm_u x w f) = pm_call1 (fun v u => pm_ev (pm_call pm_Tf sc (d + 2)) sc 0 pm_c22 52 [(0, pm_r 48)] (v.toList ++ []) u) none ((pm_call pm_Tf sc (d + 2)) 43 [pm_r 48] (pm_u x w f)) := by
  exact (pm_ev_step _ _ _ _).trans rfl
theorem s22b_4 {sc : pm_Sc} (d : Nat)  (x : Nat → Nat → Int32) (w : Nat → Nat → Bool) (f : Nat → Nat → Nat) : pm_ev (pm_call pm_Tf sc (d + 2)) sc 0 pm_c22 52 [(0, pm_r 48)] [pm_b (q43b x w f)] (pm_u x w f) = (if (q43b x w f) = true then some (none, pm_u (pm_up (pm_up x 48 5 2) 48 6 (x 48 4)) w f) else some (none, pm_u x w f)) := by
  exact (pm_ev_iter [8, 49] 3000 _ _ _ _).trans rfl
def q22b (x : Nat → Nat → Int32) (w : Nat → Nat → Bool) (f : Nat → Nat → Nat) : (Nat → Nat → Int32) × (Nat → Nat → Bool) := (if (x 48 5) = 0 then (if (q42b x w f) = true then (pm_up (pm_up (pm_up x 48 5 1) 48 7 (x 48 4)) 48 8 ((x 48 8) + (1 : Int32)), w) else (x, w)) else (if (x 48 5) = 1 then (if (q43b x w f) = true then (pm_up (pm_up x 48 5 2) 48 6 (x 48 4), w) else (x, w)) else (if ((x 48 4) - (x 48 6)) < 150 then (x, w) else (pm_up x 48 5 0, w))))
theorem e22b {sc : pm_Sc} (d : Nat)  (x : Nat → Nat → Int32) (w : Nat → Nat → Bool) (f : Nat → Nat → Nat) : pm_ev (pm_call pm_Tf sc (d + 2)) sc 0 pm_c22 0 [(0, pm_r 48)] [] (pm_u x w f) = some (pm_h0 f (q22b x w f)) := (s22b_0 d  x w f).trans (pm_iteG (g := (fun t => some (pm_h0 f t))) (fun _ => ((s22b_1 d  x w f).trans ((pm_call1_of (z42b (d + 0) x w f)).trans ((s22b_2 d  x w f).trans (pm_iteG (g := (fun t => some (pm_h0 f t))) (fun _ => rfl) (fun _ => rfl)))))) (fun _ => pm_iteG (g := (fun t => some (pm_h0 f t))) (fun _ => ((s22b_3 d  x w f).trans ((pm_call1_of (z43b (d + 0) x w f)).trans ((s22b_4 d  x w f).trans (pm_iteG (g := (fun t => some (pm_h0 f t))) (fun _ => rfl) (fun _ => rfl)))))) (fun _ => pm_iteG (g := (fun t => some (pm_h0 f t))) (fun _ => rfl) (fun _ => rfl))))
theorem z22b {sc : pm_Sc} (d : Nat) (x : Nat → Nat → Int32) (w : Nat → Nat → Bool) (f : Nat → Nat → Nat) : pm_call pm_Tf sc (d + 3) 22 [pm_r 48] (pm_u x w f) = some (pm_h0 f (q22b x w f)) := e22b d x w f
theorem s30b_0 {sc : pm_Sc} (d : Nat) (i : Int32) (x : Nat → Nat → Int32) (w : Nat → Nat → Bool) (f : Nat → Nat → Nat) : pm_ev (pm_call pm_Tf sc (d + 3)) sc 1 pm_c30 0 [(0, pm_r 48), (1, .inl i)] [] (pm_u x w f) = (if i = 0 then some (some (.inl (x 48 4)), pm_u x w f) else (if i = 1 then some (some (.inl (x 48 5)), pm_u x w f) else (if i = 2 then pm_ev (pm_call pm_Tf sc (d + 3)) sc 1 pm_c30 59 [(0, pm_r 48), (1, .inl i)] [pm_r 48] (pm_u x w f) else (if i = 3 then some (some (.inl (x 50 0)), pm_u x w f) else (if i = 4 then some (some (.inl (x 15 1)), pm_u x w f) else (if i = 5 then pm_ev (pm_call pm_Tf sc (d + 3)) sc 1 pm_c30 80 [(0, pm_r 48), (1, .inl i)] [pm_r 48] (pm_u x w f) else (if i = 6 then pm_ev (pm_call pm_Tf sc (d + 3)) sc 1 pm_c30 85 [(0, pm_r 48), (1, .inl i)] [pm_r 48] (pm_u x w f) else (if i = 7 then some (some (.inl (x 48 8)), pm_u x w f) else some (some (.inl (-1)), pm_u x w f))))))))) := by
  exact (pm_ev_iter [59, 80, 85, 88] 3000 _ _ _ _).trans rfl
theorem s30b_1 {sc : pm_Sc} (d : Nat) (i : Int32) (x : Nat → Nat → Int32) (w : Nat → Nat → Bool) (f : Nat → Nat → Nat) : pm_ev (pm_call pm_Tf sc (d + 3)) sc 1 pm_c30 59 [(0, pm_r 48), (1, .inl i)] [pm_r 48] (pm_u x w f) = pm_call1 (fun v u => pm_ev (pm_call pm_Tf sc (d + 3)) sc 1 pm_c30 62 [(0, pm_r 48), (1, .inl i)] (v.toList ++ []) u) none ((pm_call pm_Tf sc (d + 3)) 25 [pm_r 48] (pm_u x w f)) := by
  exact (pm_ev_step _ _ _ _).trans rfl
theorem s30b_2 {sc : pm_Sc} (d : Nat) (i : Int32) (x : Nat → Nat → Int32) (w : Nat → Nat → Bool) (f : Nat → Nat → Nat) : pm_ev (pm_call pm_Tf sc (d + 3)) sc 1 pm_c30 62 [(0, pm_r 48), (1, .inl i)] [.inl (q25b x w f)] (pm_u x w f) = some (some (.inl (q25b x w f)), pm_u x w f) := by
  exact (pm_ev_iter [59, 80, 85, 88] 3000 _ _ _ _).trans rfl
theorem s30b_3 {sc : pm_Sc} (d : Nat) (i : Int32) (x : Nat → Nat → Int32) (w : Nat → Nat → Bool) (f : Nat → Nat → Nat) : pm_ev (pm_call pm_Tf sc (d + 3)) sc 1 pm_c30 80 [(0, pm_r 48), (1, .inl i)] [pm_r 48] (pm_u x w f) = pm_call1 (fun v u => pm_ev (pm_call pm_Tf sc (d + 3)) sc 1 pm_c30 83 [(0, pm_r 48), (1, .inl i)] (v.toList ++ []) u) none ((pm_call pm_Tf sc (d + 3)) 28 [pm_r 48] (pm_u x w f)) := by
  exact (pm_ev_step _ _ _ _).trans rfl
theorem s30b_4 {sc : pm_Sc} (d : Nat) (i : Int32) (x : Nat → Nat → Int32) (w : Nat → Nat → Bool) (f : Nat → Nat → Nat) : pm_ev (pm_call pm_Tf sc (d + 3)) sc 1 pm_c30 83 [(0, pm_r 48), (1, .inl i)] [.inl (q28b x w f)] (pm_u x w f) = some (some (.inl (q28b x w f)), pm_u x w f) := by
  exact (pm_ev_iter [59, 80, 85, 88] 3000 _ _ _ _).trans rfl
theorem s30b_5 {sc : pm_Sc} (d : Nat) (i : Int32) (x : Nat → Nat → Int32) (w : Nat → Nat → Bool) (f : Nat → Nat → Nat) : pm_ev (pm_call pm_Tf sc (d + 3)) sc 1 pm_c30 85 [(0, pm_r 48), (1, .inl i)] [pm_r 48] (pm_u x w f) = pm_call1 (fun v u => pm_ev (pm_call pm_Tf sc (d + 3)) sc 1 pm_c30 88 [(0, pm_r 48), (1, .inl i)] (v.toList ++ []) u) none ((pm_call pm_Tf sc (d + 3)) 44 [pm_r 48] (pm_u x w f)) := by
  exact (pm_ev_step _ _ _ _).trans rfl
theorem s30b_6 {sc : pm_Sc} (d : Nat) (i : Int32) (x : Nat → Nat → Int32) (w : Nat → Nat → Bool) (f : Nat → Nat → Nat) : pm_ev (pm_call pm_Tf sc (d + 3)) sc 1 pm_c30 88 [(0, pm_r 48), (1, .inl i)] [pm_b (q44b x w f)] (pm_u x w f) = pm_call1 (fun v u => pm_ev (pm_call pm_Tf sc (d + 3)) sc 1 pm_c30 91 [(0, pm_r 48), (1, .inl i)] (v.toList ++ []) u) none ((pm_call pm_Tf sc (d + 3)) 72 [pm_b (q44b x w f)] (pm_u x w f)) := by
  exact (pm_ev_step _ _ _ _).trans rfl
theorem s30b_7 {sc : pm_Sc} (d : Nat) (i : Int32) (x : Nat → Nat → Int32) (w : Nat → Nat → Bool) (f : Nat → Nat → Nat) : pm_ev (pm_call pm_Tf sc (d + 3)) sc 1 pm_c30 91 [(0, pm_r 48), (1, .inl i)] [.inl (q72 (q44b x w f) x w f)] (pm_u x w f) = some (some (.inl (q72 (q44b x w f) x w f)), pm_u x w f) := by
  exact (pm_ev_iter [59, 80, 85, 88] 3000 _ _ _ _).trans rfl
def q30b (i : Int32) (x : Nat → Nat → Int32) (w : Nat → Nat → Bool) (f : Nat → Nat → Nat) : Int32 := (if i = 0 then x 48 4 else (if i = 1 then x 48 5 else (if i = 2 then (q25b x w f) else (if i = 3 then x 50 0 else (if i = 4 then x 15 1 else (if i = 5 then (q28b x w f) else (if i = 6 then (q72 (q44b x w f) x w f) else (if i = 7 then x 48 8 else (-1)))))))))
theorem e30b {sc : pm_Sc} (d : Nat) (i : Int32) (x : Nat → Nat → Int32) (w : Nat → Nat → Bool) (f : Nat → Nat → Nat) : pm_ev (pm_call pm_Tf sc (d + 3)) sc 1 pm_c30 0 [(0, pm_r 48), (1, .inl i)] [] (pm_u x w f) = some (pm_g1 x w f (q30b i x w f)) := (s30b_0 d i x w f).trans (pm_iteG (g := (fun t => some (pm_g1 x w f t))) (fun _ => rfl) (fun _ => pm_iteG (g := (fun t => some (pm_g1 x w f t))) (fun _ => rfl) (fun _ => pm_iteG (g := (fun t => some (pm_g1 x w f t))) (fun _ => ((s30b_1 d i x w f).trans ((pm_call1_of (z25b (d + 3) x w f)).trans ((s30b_2 d i x w f).trans (rfl))))) (fun _ => pm_iteG (g := (fun t => some (pm_g1 x w f t))) (fun _ => rfl) (fun _ => pm_iteG (g := (fun t => some (pm_g1 x w f t))) (fun _ => rfl) (fun _ => pm_iteG (g := (fun t => some (pm_g1 x w f t))) (fun _ => ((s30b_3 d i x w f).trans ((pm_call1_of (z28b (d + 1) x w f)).trans ((s30b_4 d i x w f).trans (rfl))))) (fun _ => pm_iteG (g := (fun t => some (pm_g1 x w f t))) (fun _ => ((s30b_5 d i x w f).trans ((pm_call1_of (z44b (d + 0) x w f)).trans (((s30b_6 d i x w f).trans ((pm_call1_of (z72 (d + 3) (q44b x w f) x w f)).trans ((s30b_7 d i x w f).trans (rfl)))))))) (fun _ => pm_iteG (g := (fun t => some (pm_g1 x w f t))) (fun _ => rfl) (fun _ => rfl)))))))))
theorem z30b {sc : pm_Sc} (d : Nat) (i : Int32) (x : Nat → Nat → Int32) (w : Nat → Nat → Bool) (f : Nat → Nat → Nat) : pm_call pm_Tf sc (d + 4) 30 [pm_r 48, .inl i] (pm_u x w f) = some (pm_g1 x w f (q30b i x w f)) := e30b d i x w f
theorem s21b_58_7_0 {sc : pm_Sc} (d : Nat)  (x : Nat → Nat → Int32) (w : Nat → Nat → Bool) (f : Nat → Nat → Nat) : pm_ev (pm_call pm_Tf sc (d + 4)) sc 0 pm_c21 58 [(1, .inl 7), (0, pm_r 48)] [] (pm_u x w f) = pm_ev (pm_call pm_Tf sc (d + 4)) sc 0 pm_c21 64 [(1, .inl 8), (0, pm_r 48)] [] (pm_u x w f) := by
  exact (pm_ev_iter [11, 15, 44, 55, 64, 74] 3000 _ _ _ _).trans rfl
def q21b_58_7 (x : Nat → Nat → Int32) (w : Nat → Nat → Bool) (f : Nat → Nat → Nat) : (Nat → Nat → Int32) × (Nat → Nat → Bool) := (x, w)
theorem e21b_58_7 {sc : pm_Sc} (d : Nat)  (x : Nat → Nat → Int32) (w : Nat → Nat → Bool) (f : Nat → Nat → Nat) : pm_ev (pm_call pm_Tf sc (d + 4)) sc 0 pm_c21 58 [(1, .inl 7), (0, pm_r 48)] [] (pm_u x w f) = pm_ev (pm_call pm_Tf sc (d + 4)) sc 0 pm_c21 64 [(1, .inl 8), (0, pm_r 48)] [] (pm_u (q21b_58_7 x w f).1 (q21b_58_7 x w f).2 f) := (s21b_58_7_0 d  x w f).trans (rfl)
theorem s21b_55_7_0 {sc : pm_Sc} (d : Nat) (b0 : Bool) (x : Nat → Nat → Int32) (w : Nat → Nat → Bool) (f : Nat → Nat → Nat) : pm_ev (pm_call pm_Tf sc (d + 4)) sc 0 pm_c21 55 [(1, .inl 7), (0, pm_r 48)] [pm_bi b0, pm_r 65] (pm_u x w f) = pm_call1 (fun v u => pm_ev (pm_call pm_Tf sc (d + 4)) sc 0 pm_c21 58 [(1, .inl 7), (0, pm_r 48)] (v.toList ++ []) u) none ((pm_call pm_Tf sc (d + 4)) 7 [pm_r 65, pm_bi b0] (pm_u x w f)) := by
  cases b0 <;> exact (pm_ev_step _ _ _ _).trans rfl
def q21b_55_7 (b0 : Bool) (x : Nat → Nat → Int32) (w : Nat → Nat → Bool) (f : Nat → Nat → Nat) : (Nat → Nat → Int32) × (Nat → Nat → Bool) := q21b_58_7 ((q7 65 b0 x w f).1) ((q7 65 b0 x w f).2) f
theorem e21b_55_7 {sc : pm_Sc} (d : Nat) (b0 : Bool) (x : Nat → Nat → Int32) (w : Nat → Nat → Bool) (f : Nat → Nat → Nat) : pm_ev (pm_call pm_Tf sc (d + 4)) sc 0 pm_c21 55 [(1, .inl 7), (0, pm_r 48)] [pm_bi b0, pm_r 65] (pm_u x w f) = pm_ev (pm_call pm_Tf sc (d + 4)) sc 0 pm_c21 64 [(1, .inl 8), (0, pm_r 48)] [] (pm_u (q21b_55_7 b0 x w f).1 (q21b_55_7 b0 x w f).2 f) := ((s21b_55_7_0 d b0 x w f).trans ((pm_call1_of (z7 (d + 2) 65 b0 x w f (by decide))).trans (e21b_58_7 d  ((q7 65 b0 x w f).1) ((q7 65 b0 x w f).2) f)))
theorem s21b_58_6_0 {sc : pm_Sc} (d : Nat)  (x : Nat → Nat → Int32) (w : Nat → Nat → Bool) (f : Nat → Nat → Nat) : pm_ev (pm_call pm_Tf sc (d + 4)) sc 0 pm_c21 58 [(1, .inl 6), (0, pm_r 48)] [] (pm_u x w f) = (if (x 48 5) = 0 then pm_ev (pm_call pm_Tf sc (d + 4)) sc 0 pm_c21 55 [(1, .inl 7), (0, pm_r 48)] [.inl 0, pm_r 65] (pm_u x w f) else pm_ev (pm_call pm_Tf sc (d + 4)) sc 0 pm_c21 44 [(1, .inl 7), (0, pm_r 48)] [.inl 7, pm_r 50, pm_r 65] (pm_u x w f)) := by
  exact (pm_ev_iter [11, 15, 44, 55, 64, 74] 3000 _ _ _ _).trans rfl
theorem s21b_58_6_1 {sc : pm_Sc} (d : Nat)  (x : Nat → Nat → Int32) (w : Nat → Nat → Bool) (f : Nat → Nat → Nat) : pm_ev (pm_call pm_Tf sc (d + 4)) sc 0 pm_c21 44 [(1, .inl 7), (0, pm_r 48)] [.inl 7, pm_r 50, pm_r 65] (pm_u x w f) = pm_call1 (fun v u => pm_ev (pm_call pm_Tf sc (d + 4)) sc 0 pm_c21 47 [(1, .inl 7), (0, pm_r 48)] (v.toList ++ [pm_r 65]) u) none ((pm_call pm_Tf sc (d + 4)) 3 [pm_r 50, .inl 7] (pm_u x w f)) := by
  exact (pm_ev_step _ _ _ _).trans rfl
theorem s21b_58_6_2 {sc : pm_Sc} (d : Nat)  (x : Nat → Nat → Int32) (w : Nat → Nat → Bool) (f : Nat → Nat → Nat) : pm_ev (pm_call pm_Tf sc (d + 4)) sc 0 pm_c21 47 [(1, .inl 7), (0, pm_r 48)] [pm_b (q3 50 7 x w f), pm_r 65] (pm_u x w f) = (if (q3 50 7 x w f) = true then pm_ev (pm_call pm_Tf sc (d + 4)) sc 0 pm_c21 55 [(1, .inl 7), (0, pm_r 48)] [.inl 0, pm_r 65] (pm_u x w f) else pm_ev (pm_call pm_Tf sc (d + 4)) sc 0 pm_c21 55 [(1, .inl 7), (0, pm_r 48)] [.inl 1, pm_r 65] (pm_u x w f)) := by
  exact (pm_ev_iter [11, 15, 44, 55, 64, 74] 3000 _ _ _ _).trans rfl
def q21b_58_6 (x : Nat → Nat → Int32) (w : Nat → Nat → Bool) (f : Nat → Nat → Nat) : (Nat → Nat → Int32) × (Nat → Nat → Bool) := (if (x 48 5) = 0 then q21b_55_7 false x w f else (if (q3 50 7 x w f) = true then q21b_55_7 false x w f else q21b_55_7 true x w f))
theorem e21b_58_6 {sc : pm_Sc} (d : Nat)  (x : Nat → Nat → Int32) (w : Nat → Nat → Bool) (f : Nat → Nat → Nat) : pm_ev (pm_call pm_Tf sc (d + 4)) sc 0 pm_c21 58 [(1, .inl 6), (0, pm_r 48)] [] (pm_u x w f) = pm_ev (pm_call pm_Tf sc (d + 4)) sc 0 pm_c21 64 [(1, .inl 8), (0, pm_r 48)] [] (pm_u (q21b_58_6 x w f).1 (q21b_58_6 x w f).2 f) := (s21b_58_6_0 d  x w f).trans (pm_iteG (g := (fun (t : (Nat → Nat → Int32) × (Nat → Nat → Bool)) => pm_ev (pm_call pm_Tf sc (d + 4)) sc 0 pm_c21 64 [(1, .inl 8), (0, pm_r 48)] [] (pm_u t.1 t.2 f))) (fun _ => e21b_55_7 d  false x w f) (fun _ => ((s21b_58_6_1 d  x w f).trans ((pm_call1_of (z3 (d + 4) 50 7 x w f (by decide))).trans ((s21b_58_6_2 d  x w f).trans (pm_iteG (g := (fun (t : (Nat → Nat → Int32) × (Nat → Nat → Bool)) => pm_ev (pm_call pm_Tf sc (d + 4)) sc 0 pm_c21 64 [(1, .inl 8), (0, pm_r 48)] [] (pm_u t.1 t.2 f))) (fun _ => e21b_55_7 d  false x w f) (fun _ => e21b_55_7 d  true x w f)))))))
theorem s21b_55_6_0 {sc : pm_Sc} (d : Nat) (b0 : Bool) (x : Nat → Nat → Int32) (w : Nat → Nat → Bool) (f : Nat → Nat → Nat) : pm_ev (pm_call pm_Tf sc (d + 4)) sc 0 pm_c21 55 [(1, .inl 6), (0, pm_r 48)] [pm_bi b0, pm_r 63] (pm_u x w f) = pm_call1 (fun v u => pm_ev (pm_call pm_Tf sc (d + 4)) sc 0 pm_c21 58 [(1, .inl 6), (0, pm_r 48)] (v.toList ++ []) u) none ((pm_call pm_Tf sc (d + 4)) 7 [pm_r 63, pm_bi b0] (pm_u x w f)) := by
  cases b0 <;> exact (pm_ev_step _ _ _ _).trans rfl
def q21b_55_6 (b0 : Bool) (x : Nat → Nat → Int32) (w : Nat → Nat → Bool) (f : Nat → Nat → Nat) : (Nat → Nat → Int32) × (Nat → Nat → Bool) := q21b_58_6 ((q7 63 b0 x w f).1) ((q7 63 b0 x w f).2) f
theorem e21b_55_6 {sc : pm_Sc} (d : Nat) (b0 : Bool) (x : Nat → Nat → Int32) (w : Nat → Nat → Bool) (f : Nat → Nat → Nat) : pm_ev (pm_call pm_Tf sc (d + 4)) sc 0 pm_c21 55 [(1, .inl 6), (0, pm_r 48)] [pm_bi b0, pm_r 63] (pm_u x w f) = pm_ev (pm_call pm_Tf sc (d + 4)) sc 0 pm_c21 64 [(1, .inl 8), (0, pm_r 48)] [] (pm_u (q21b_55_6 b0 x w f).1 (q21b_55_6 b0 x w f).2 f) := ((s21b_55_6_0 d b0 x w f).trans ((pm_call1_of (z7 (d + 2) 63 b0 x w f (by decide))).trans (e21b_58_6 d  ((q7 63 b0 x w f).1) ((q7 63 b0 x w f).2) f)))
theorem s21b_58_5_0 {sc : pm_Sc} (d : Nat)  (x : Nat → Nat → Int32) (w : Nat → Nat → Bool) (f : Nat → Nat → Nat) : pm_ev (pm_call pm_Tf sc (d + 4)) sc 0 pm_c21 58 [(1, .inl 5), (0, pm_r 48)] [] (pm_u x w f) = (if (x 48 5) = 0 then pm_ev (pm_call pm_Tf sc (d + 4)) sc 0 pm_c21 55 [(1, .inl 6), (0, pm_r 48)] [.inl 0, pm_r 63] (pm_u x w f) else pm_ev (pm_call pm_Tf sc (d + 4)) sc 0 pm_c21 44 [(1, .inl 6), (0, pm_r 48)] [.inl 6, pm_r 50, pm_r 63] (pm_u x w f)) := by
  exact (pm_ev_iter [11, 15, 44, 55, 64, 74] 3000 _ _ _ _).trans rfl
theorem s21b_58_5_1 {sc : pm_Sc} (d : Nat)  (x : Nat → Nat → Int32) (w : Nat → Nat → Bool) (f : Nat → Nat → Nat) : pm_ev (pm_call pm_Tf sc (d + 4)) sc 0 pm_c21 44 [(1, .inl 6), (0, pm_r 48)] [.inl 6, pm_r 50, pm_r 63] (pm_u x w f) = pm_call1 (fun v u => pm_ev (pm_call pm_Tf sc (d + 4)) sc 0 pm_c21 47 [(1, .inl 6), (0, pm_r 48)] (v.toList ++ [pm_r 63]) u) none ((pm_call pm_Tf sc (d + 4)) 3 [pm_r 50, .inl 6] (pm_u x w f)) := by
  exact (pm_ev_step _ _ _ _).trans rfl
theorem s21b_58_5_2 {sc : pm_Sc} (d : Nat)  (x : Nat → Nat → Int32) (w : Nat → Nat → Bool) (f : Nat → Nat → Nat) : pm_ev (pm_call pm_Tf sc (d + 4)) sc 0 pm_c21 47 [(1, .inl 6), (0, pm_r 48)] [pm_b (q3 50 6 x w f), pm_r 63] (pm_u x w f) = (if (q3 50 6 x w f) = true then pm_ev (pm_call pm_Tf sc (d + 4)) sc 0 pm_c21 55 [(1, .inl 6), (0, pm_r 48)] [.inl 0, pm_r 63] (pm_u x w f) else pm_ev (pm_call pm_Tf sc (d + 4)) sc 0 pm_c21 55 [(1, .inl 6), (0, pm_r 48)] [.inl 1, pm_r 63] (pm_u x w f)) := by
  exact (pm_ev_iter [11, 15, 44, 55, 64, 74] 3000 _ _ _ _).trans rfl
def q21b_58_5 (x : Nat → Nat → Int32) (w : Nat → Nat → Bool) (f : Nat → Nat → Nat) : (Nat → Nat → Int32) × (Nat → Nat → Bool) := (if (x 48 5) = 0 then q21b_55_6 false x w f else (if (q3 50 6 x w f) = true then q21b_55_6 false x w f else q21b_55_6 true x w f))
theorem e21b_58_5 {sc : pm_Sc} (d : Nat)  (x : Nat → Nat → Int32) (w : Nat → Nat → Bool) (f : Nat → Nat → Nat) : pm_ev (pm_call pm_Tf sc (d + 4)) sc 0 pm_c21 58 [(1, .inl 5), (0, pm_r 48)] [] (pm_u x w f) = pm_ev (pm_call pm_Tf sc (d + 4)) sc 0 pm_c21 64 [(1, .inl 8), (0, pm_r 48)] [] (pm_u (q21b_58_5 x w f).1 (q21b_58_5 x w f).2 f) := (s21b_58_5_0 d  x w f).trans (pm_iteG (g := (fun (t : (Nat → Nat → Int32) × (Nat → Nat → Bool)) => pm_ev (pm_call pm_Tf sc (d + 4)) sc 0 pm_c21 64 [(1, .inl 8), (0, pm_r 48)] [] (pm_u t.1 t.2 f))) (fun _ => e21b_55_6 d  false x w f) (fun _ => ((s21b_58_5_1 d  x w f).trans ((pm_call1_of (z3 (d + 4) 50 6 x w f (by decide))).trans ((s21b_58_5_2 d  x w f).trans (pm_iteG (g := (fun (t : (Nat → Nat → Int32) × (Nat → Nat → Bool)) => pm_ev (pm_call pm_Tf sc (d + 4)) sc 0 pm_c21 64 [(1, .inl 8), (0, pm_r 48)] [] (pm_u t.1 t.2 f))) (fun _ => e21b_55_6 d  false x w f) (fun _ => e21b_55_6 d  true x w f)))))))
theorem s21b_55_5_0 {sc : pm_Sc} (d : Nat) (b0 : Bool) (x : Nat → Nat → Int32) (w : Nat → Nat → Bool) (f : Nat → Nat → Nat) : pm_ev (pm_call pm_Tf sc (d + 4)) sc 0 pm_c21 55 [(1, .inl 5), (0, pm_r 48)] [pm_bi b0, pm_r 61] (pm_u x w f) = pm_call1 (fun v u => pm_ev (pm_call pm_Tf sc (d + 4)) sc 0 pm_c21 58 [(1, .inl 5), (0, pm_r 48)] (v.toList ++ []) u) none ((pm_call pm_Tf sc (d + 4)) 7 [pm_r 61, pm_bi b0] (pm_u x w f)) := by
  cases b0 <;> exact (pm_ev_step _ _ _ _).trans rfl
def q21b_55_5 (b0 : Bool) (x : Nat → Nat → Int32) (w : Nat → Nat → Bool) (f : Nat → Nat → Nat) : (Nat → Nat → Int32) × (Nat → Nat → Bool) := q21b_58_5 ((q7 61 b0 x w f).1) ((q7 61 b0 x w f).2) f
theorem e21b_55_5 {sc : pm_Sc} (d : Nat) (b0 : Bool) (x : Nat → Nat → Int32) (w : Nat → Nat → Bool) (f : Nat → Nat → Nat) : pm_ev (pm_call pm_Tf sc (d + 4)) sc 0 pm_c21 55 [(1, .inl 5), (0, pm_r 48)] [pm_bi b0, pm_r 61] (pm_u x w f) = pm_ev (pm_call pm_Tf sc (d + 4)) sc 0 pm_c21 64 [(1, .inl 8), (0, pm_r 48)] [] (pm_u (q21b_55_5 b0 x w f).1 (q21b_55_5 b0 x w f).2 f) := ((s21b_55_5_0 d b0 x w f).trans ((pm_call1_of (z7 (d + 2) 61 b0 x w f (by decide))).trans (e21b_58_5 d  ((q7 61 b0 x w f).1) ((q7 61 b0 x w f).2) f)))
theorem s21b_58_4_0 {sc : pm_Sc} (d : Nat)  (x : Nat → Nat → Int32) (w : Nat → Nat → Bool) (f : Nat → Nat → Nat) : pm_ev (pm_call pm_Tf sc (d + 4)) sc 0 pm_c21 58 [(1, .inl 4), (0, pm_r 48)] [] (pm_u x w f) = (if (x 48 5) = 0 then pm_ev (pm_call pm_Tf sc (d + 4)) sc 0 pm_c21 55 [(1, .inl 5), (0, pm_r 48)] [.inl 0, pm_r 61] (pm_u x w f) else pm_ev (pm_call pm_Tf sc (d + 4)) sc 0 pm_c21 44 [(1, .inl 5), (0, pm_r 48)] [.inl 5, pm_r 50, pm_r 61] (pm_u x w f)) := by
  exact (pm_ev_iter [11, 15, 44, 55, 64, 74] 3000 _ _ _ _).trans rfl
theorem s21b_58_4_1 {sc : pm_Sc} (d : Nat)  (x : Nat → Nat → Int32) (w : Nat → Nat → Bool) (f : Nat → Nat → Nat) : pm_ev (pm_call pm_Tf sc (d + 4)) sc 0 pm_c21 44 [(1, .inl 5), (0, pm_r 48)] [.inl 5, pm_r 50, pm_r 61] (pm_u x w f) = pm_call1 (fun v u => pm_ev (pm_call pm_Tf sc (d + 4)) sc 0 pm_c21 47 [(1, .inl 5), (0, pm_r 48)] (v.toList ++ [pm_r 61]) u) none ((pm_call pm_Tf sc (d + 4)) 3 [pm_r 50, .inl 5] (pm_u x w f)) := by
  exact (pm_ev_step _ _ _ _).trans rfl
theorem s21b_58_4_2 {sc : pm_Sc} (d : Nat)  (x : Nat → Nat → Int32) (w : Nat → Nat → Bool) (f : Nat → Nat → Nat) : pm_ev (pm_call pm_Tf sc (d + 4)) sc 0 pm_c21 47 [(1, .inl 5), (0, pm_r 48)] [pm_b (q3 50 5 x w f), pm_r 61] (pm_u x w f) = (if (q3 50 5 x w f) = true then pm_ev (pm_call pm_Tf sc (d + 4)) sc 0 pm_c21 55 [(1, .inl 5), (0, pm_r 48)] [.inl 0, pm_r 61] (pm_u x w f) else pm_ev (pm_call pm_Tf sc (d + 4)) sc 0 pm_c21 55 [(1, .inl 5), (0, pm_r 48)] [.inl 1, pm_r 61] (pm_u x w f)) := by
  exact (pm_ev_iter [11, 15, 44, 55, 64, 74] 3000 _ _ _ _).trans rfl
def q21b_58_4 (x : Nat → Nat → Int32) (w : Nat → Nat → Bool) (f : Nat → Nat → Nat) : (Nat → Nat → Int32) × (Nat → Nat → Bool) := (if (x 48 5) = 0 then q21b_55_5 false x w f else (if (q3 50 5 x w f) = true then q21b_55_5 false x w f else q21b_55_5 true x w f))
theorem e21b_58_4 {sc : pm_Sc} (d : Nat)  (x : Nat → Nat → Int32) (w : Nat → Nat → Bool) (f : Nat → Nat → Nat) : pm_ev (pm_call pm_Tf sc (d + 4)) sc 0 pm_c21 58 [(1, .inl 4), (0, pm_r 48)] [] (pm_u x w f) = pm_ev (pm_call pm_Tf sc (d + 4)) sc 0 pm_c21 64 [(1, .inl 8), (0, pm_r 48)] [] (pm_u (q21b_58_4 x w f).1 (q21b_58_4 x w f).2 f) := (s21b_58_4_0 d  x w f).trans (pm_iteG (g := (fun (t : (Nat → Nat → Int32) × (Nat → Nat → Bool)) => pm_ev (pm_call pm_Tf sc (d + 4)) sc 0 pm_c21 64 [(1, .inl 8), (0, pm_r 48)] [] (pm_u t.1 t.2 f))) (fun _ => e21b_55_5 d  false x w f) (fun _ => ((s21b_58_4_1 d  x w f).trans ((pm_call1_of (z3 (d + 4) 50 5 x w f (by decide))).trans ((s21b_58_4_2 d  x w f).trans (pm_iteG (g := (fun (t : (Nat → Nat → Int32) × (Nat → Nat → Bool)) => pm_ev (pm_call pm_Tf sc (d + 4)) sc 0 pm_c21 64 [(1, .inl 8), (0, pm_r 48)] [] (pm_u t.1 t.2 f))) (fun _ => e21b_55_5 d  false x w f) (fun _ => e21b_55_5 d  true x w f)))))))
theorem s21b_55_4_0 {sc : pm_Sc} (d : Nat) (b0 : Bool) (x : Nat → Nat → Int32) (w : Nat → Nat → Bool) (f : Nat → Nat → Nat) : pm_ev (pm_call pm_Tf sc (d + 4)) sc 0 pm_c21 55 [(1, .inl 4), (0, pm_r 48)] [pm_bi b0, pm_r 59] (pm_u x w f) = pm_call1 (fun v u => pm_ev (pm_call pm_Tf sc (d + 4)) sc 0 pm_c21 58 [(1, .inl 4), (0, pm_r 48)] (v.toList ++ []) u) none ((pm_call pm_Tf sc (d + 4)) 7 [pm_r 59, pm_bi b0] (pm_u x w f)) := by
  cases b0 <;> exact (pm_ev_step _ _ _ _).trans rfl
def q21b_55_4 (b0 : Bool) (x : Nat → Nat → Int32) (w : Nat → Nat → Bool) (f : Nat → Nat → Nat) : (Nat → Nat → Int32) × (Nat → Nat → Bool) := q21b_58_4 ((q7 59 b0 x w f).1) ((q7 59 b0 x w f).2) f
theorem e21b_55_4 {sc : pm_Sc} (d : Nat) (b0 : Bool) (x : Nat → Nat → Int32) (w : Nat → Nat → Bool) (f : Nat → Nat → Nat) : pm_ev (pm_call pm_Tf sc (d + 4)) sc 0 pm_c21 55 [(1, .inl 4), (0, pm_r 48)] [pm_bi b0, pm_r 59] (pm_u x w f) = pm_ev (pm_call pm_Tf sc (d + 4)) sc 0 pm_c21 64 [(1, .inl 8), (0, pm_r 48)] [] (pm_u (q21b_55_4 b0 x w f).1 (q21b_55_4 b0 x w f).2 f) := ((s21b_55_4_0 d b0 x w f).trans ((pm_call1_of (z7 (d + 2) 59 b0 x w f (by decide))).trans (e21b_58_4 d  ((q7 59 b0 x w f).1) ((q7 59 b0 x w f).2) f)))
theorem s21b_58_3_0 {sc : pm_Sc} (d : Nat)  (x : Nat → Nat → Int32) (w : Nat → Nat → Bool) (f : Nat → Nat → Nat) : pm_ev (pm_call pm_Tf sc (d + 4)) sc 0 pm_c21 58 [(1, .inl 3), (0, pm_r 48)] [] (pm_u x w f) = (if (x 48 5) = 0 then pm_ev (pm_call pm_Tf sc (d + 4)) sc 0 pm_c21 55 [(1, .inl 4), (0, pm_r 48)] [.inl 0, pm_r 59] (pm_u x w f) else pm_ev (pm_call pm_Tf sc (d + 4)) sc 0 pm_c21 44 [(1, .inl 4), (0, pm_r 48)] [.inl 4, pm_r 50, pm_r 59] (pm_u x w f)) := by
  exact (pm_ev_iter [11, 15, 44, 55, 64, 74] 3000 _ _ _ _).trans rfl
theorem s21b_58_3_1 {sc : pm_Sc} (d : Nat)  (x : Nat → Nat → Int32) (w : Nat → Nat → Bool) (f : Nat → Nat → Nat) : pm_ev (pm_call pm_Tf sc (d + 4)) sc 0 pm_c21 44 [(1, .inl 4), (0, pm_r 48)] [.inl 4, pm_r 50, pm_r 59] (pm_u x w f) = pm_call1 (fun v u => pm_ev (pm_call pm_Tf sc (d + 4)) sc 0 pm_c21 47 [(1, .inl 4), (0, pm_r 48)] (v.toList ++ [pm_r 59]) u) none ((pm_call pm_Tf sc (d + 4)) 3 [pm_r 50, .inl 4] (pm_u x w f)) := by
  exact (pm_ev_step _ _ _ _).trans rfl
theorem s21b_58_3_2 {sc : pm_Sc} (d : Nat)  (x : Nat → Nat → Int32) (w : Nat → Nat → Bool) (f : Nat → Nat → Nat) : pm_ev (pm_call pm_Tf sc (d + 4)) sc 0 pm_c21 47 [(1, .inl 4), (0, pm_r 48)] [pm_b (q3 50 4 x w f), pm_r 59] (pm_u x w f) = (if (q3 50 4 x w f) = true then pm_ev (pm_call pm_Tf sc (d + 4)) sc 0 pm_c21 55 [(1, .inl 4), (0, pm_r 48)] [.inl 0, pm_r 59] (pm_u x w f) else pm_ev (pm_call pm_Tf sc (d + 4)) sc 0 pm_c21 55 [(1, .inl 4), (0, pm_r 48)] [.inl 1, pm_r 59] (pm_u x w f)) := by
  exact (pm_ev_iter [11, 15, 44, 55, 64, 74] 3000 _ _ _ _).trans rfl
def q21b_58_3 (x : Nat → Nat → Int32) (w : Nat → Nat → Bool) (f : Nat → Nat → Nat) : (Nat → Nat → Int32) × (Nat → Nat → Bool) := (if (x 48 5) = 0 then q21b_55_4 false x w f else (if (q3 50 4 x w f) = true then q21b_55_4 false x w f else q21b_55_4 true x w f))
theorem e21b_58_3 {sc : pm_Sc} (d : Nat)  (x : Nat → Nat → Int32) (w : Nat → Nat → Bool) (f : Nat → Nat → Nat) : pm_ev (pm_call pm_Tf sc (d + 4)) sc 0 pm_c21 58 [(1, .inl 3), (0, pm_r 48)] [] (pm_u x w f) = pm_ev (pm_call pm_Tf sc (d + 4)) sc 0 pm_c21 64 [(1, .inl 8), (0, pm_r 48)] [] (pm_u (q21b_58_3 x w f).1 (q21b_58_3 x w f).2 f) := (s21b_58_3_0 d  x w f).trans (pm_iteG (g := (fun (t : (Nat → Nat → Int32) × (Nat → Nat → Bool)) => pm_ev (pm_call pm_Tf sc (d + 4)) sc 0 pm_c21 64 [(1, .inl 8), (0, pm_r 48)] [] (pm_u t.1 t.2 f))) (fun _ => e21b_55_4 d  false x w f) (fun _ => ((s21b_58_3_1 d  x w f).trans ((pm_call1_of (z3 (d + 4) 50 4 x w f (by decide))).trans ((s21b_58_3_2 d  x w f).trans (pm_iteG (g := (fun (t : (Nat → Nat → Int32) × (Nat → Nat → Bool)) => pm_ev (pm_call pm_Tf sc (d + 4)) sc 0 pm_c21 64 [(1, .inl 8), (0, pm_r 48)] [] (pm_u t.1 t.2 f))) (fun _ => e21b_55_4 d  false x w f) (fun _ => e21b_55_4 d  true x w f)))))))
theorem s21b_55_3_0 {sc : pm_Sc} (d : Nat) (b0 : Bool) (x : Nat → Nat → Int32) (w : Nat → Nat → Bool) (f : Nat → Nat → Nat) : pm_ev (pm_call pm_Tf sc (d + 4)) sc 0 pm_c21 55 [(1, .inl 3), (0, pm_r 48)] [pm_bi b0, pm_r 57] (pm_u x w f) = pm_call1 (fun v u => pm_ev (pm_call pm_Tf sc (d + 4)) sc 0 pm_c21 58 [(1, .inl 3), (0, pm_r 48)] (v.toList ++ []) u) none ((pm_call pm_Tf sc (d + 4)) 7 [pm_r 57, pm_bi b0] (pm_u x w f)) := by
  cases b0 <;> exact (pm_ev_step _ _ _ _).trans rfl
def q21b_55_3 (b0 : Bool) (x : Nat → Nat → Int32) (w : Nat → Nat → Bool) (f : Nat → Nat → Nat) : (Nat → Nat → Int32) × (Nat → Nat → Bool) := q21b_58_3 ((q7 57 b0 x w f).1) ((q7 57 b0 x w f).2) f
theorem e21b_55_3 {sc : pm_Sc} (d : Nat) (b0 : Bool) (x : Nat → Nat → Int32) (w : Nat → Nat → Bool) (f : Nat → Nat → Nat) : pm_ev (pm_call pm_Tf sc (d + 4)) sc 0 pm_c21 55 [(1, .inl 3), (0, pm_r 48)] [pm_bi b0, pm_r 57] (pm_u x w f) = pm_ev (pm_call pm_Tf sc (d + 4)) sc 0 pm_c21 64 [(1, .inl 8), (0, pm_r 48)] [] (pm_u (q21b_55_3 b0 x w f).1 (q21b_55_3 b0 x w f).2 f) := ((s21b_55_3_0 d b0 x w f).trans ((pm_call1_of (z7 (d + 2) 57 b0 x w f (by decide))).trans (e21b_58_3 d  ((q7 57 b0 x w f).1) ((q7 57 b0 x w f).2) f)))
theorem s21b_58_2_0 {sc : pm_Sc} (d : Nat)  (x : Nat → Nat → Int32) (w : Nat → Nat → Bool) (f : Nat → Nat → Nat) : pm_ev (pm_call pm_Tf sc (d + 4)) sc 0 pm_c21 58 [(1, .inl 2), (0, pm_r 48)] [] (pm_u x w f) = (if (x 48 5) = 0 then pm_ev (pm_call pm_Tf sc (d + 4)) sc 0 pm_c21 55 [(1, .inl 3), (0, pm_r 48)] [.inl 0, pm_r 57] (pm_u x w f) else pm_ev (pm_call pm_Tf sc (d + 4)) sc 0 pm_c21 44 [(1, .inl 3), (0, pm_r 48)] [.inl 3, pm_r 50, pm_r 57] (pm_u x w f)) := by
  exact (pm_ev_iter [11, 15, 44, 55, 64, 74] 3000 _ _ _ _).trans rfl
theorem s21b_58_2_1 {sc : pm_Sc} (d : Nat)  (x : Nat → Nat → Int32) (w : Nat → Nat → Bool) (f : Nat → Nat → Nat) : pm_ev (pm_call pm_Tf sc (d + 4)) sc 0 pm_c21 44 [(1, .inl 3), (0, pm_r 48)] [.inl 3, pm_r 50, pm_r 57] (pm_u x w f) = pm_call1 (fun v u => pm_ev (pm_call pm_Tf sc (d + 4)) sc 0 pm_c21 47 [(1, .inl 3), (0, pm_r 48)] (v.toList ++ [pm_r 57]) u) none ((pm_call pm_Tf sc (d + 4)) 3 [pm_r 50, .inl 3] (pm_u x w f)) := by
  exact (pm_ev_step _ _ _ _).trans rfl
theorem s21b_58_2_2 {sc : pm_Sc} (d : Nat)  (x : Nat → Nat → Int32) (w : Nat → Nat → Bool) (f : Nat → Nat → Nat) : pm_ev (pm_call pm_Tf sc (d + 4)) sc 0 pm_c21 47 [(1, .inl 3), (0, pm_r 48)] [pm_b (q3 50 3 x w f), pm_r 57] (pm_u x w f) = (if (q3 50 3 x w f) = true then pm_ev (pm_call pm_Tf sc (d + 4)) sc 0 pm_c21 55 [(1, .inl 3), (0, pm_r 48)] [.inl 0, pm_r 57] (pm_u x w f) else pm_ev (pm_call pm_Tf sc (d + 4)) sc 0 pm_c21 55 [(1, .inl 3), (0, pm_r 48)] [.inl 1, pm_r 57] (pm_u x w f)) := by
  exact (pm_ev_iter [11, 15, 44, 55, 64, 74] 3000 _ _ _ _).trans rfl
def q21b_58_2 (x : Nat → Nat → Int32) (w : Nat → Nat → Bool) (f : Nat → Nat → Nat) : (Nat → Nat → Int32) × (Nat → Nat → Bool) := (if (x 48 5) = 0 then q21b_55_3 false x w f else (if (q3 50 3 x w f) = true then q21b_55_3 false x w f else q21b_55_3 true x w f))
theorem e21b_58_2 {sc : pm_Sc} (d : Nat)  (x : Nat → Nat → Int32) (w : Nat → Nat → Bool) (f : Nat → Nat → Nat) : pm_ev (pm_call pm_Tf sc (d + 4)) sc 0 pm_c21 58 [(1, .inl 2), (0, pm_r 48)] [] (pm_u x w f) = pm_ev (pm_call pm_Tf sc (d + 4)) sc 0 pm_c21 64 [(1, .inl 8), (0, pm_r 48)] [] (pm_u (q21b_58_2 x w f).1 (q21b_58_2 x w f).2 f) := (s21b_58_2_0 d  x w f).trans (pm_iteG (g := (fun (t : (Nat → Nat → Int32) × (Nat → Nat → Bool)) => pm_ev (pm_call pm_Tf sc (d + 4)) sc 0 pm_c21 64 [(1, .inl 8), (0, pm_r 48)] [] (pm_u t.1 t.2 f))) (fun _ => e21b_55_3 d  false x w f) (fun _ => ((s21b_58_2_1 d  x w f).trans ((pm_call1_of (z3 (d + 4) 50 3 x w f (by decide))).trans ((s21b_58_2_2 d  x w f).trans (pm_iteG (g := (fun (t : (Nat → Nat → Int32) × (Nat → Nat → Bool)) => pm_ev (pm_call pm_Tf sc (d + 4)) sc 0 pm_c21 64 [(1, .inl 8), (0, pm_r 48)] [] (pm_u t.1 t.2 f))) (fun _ => e21b_55_3 d  false x w f) (fun _ => e21b_55_3 d  true x w f)))))))
theorem s21b_55_2_0 {sc : pm_Sc} (d : Nat) (b0 : Bool) (x : Nat → Nat → Int32) (w : Nat → Nat → Bool) (f : Nat → Nat → Nat) : pm_ev (pm_call pm_Tf sc (d + 4)) sc 0 pm_c21 55 [(1, .inl 2), (0, pm_r 48)] [pm_bi b0, pm_r 55] (pm_u x w f) = pm_call1 (fun v u => pm_ev (pm_call pm_Tf sc (d + 4)) sc 0 pm_c21 58 [(1, .inl 2), (0, pm_r 48)] (v.toList ++ []) u) none ((pm_call pm_Tf sc (d + 4)) 7 [pm_r 55, pm_bi b0] (pm_u x w f)) := by
  cases b0 <;> exact (pm_ev_step _ _ _ _).trans rfl
def q21b_55_2 (b0 : Bool) (x : Nat → Nat → Int32) (w : Nat → Nat → Bool) (f : Nat → Nat → Nat) : (Nat → Nat → Int32) × (Nat → Nat → Bool) := q21b_58_2 ((q7 55 b0 x w f).1) ((q7 55 b0 x w f).2) f
theorem e21b_55_2 {sc : pm_Sc} (d : Nat) (b0 : Bool) (x : Nat → Nat → Int32) (w : Nat → Nat → Bool) (f : Nat → Nat → Nat) : pm_ev (pm_call pm_Tf sc (d + 4)) sc 0 pm_c21 55 [(1, .inl 2), (0, pm_r 48)] [pm_bi b0, pm_r 55] (pm_u x w f) = pm_ev (pm_call pm_Tf sc (d + 4)) sc 0 pm_c21 64 [(1, .inl 8), (0, pm_r 48)] [] (pm_u (q21b_55_2 b0 x w f).1 (q21b_55_2 b0 x w f).2 f) := ((s21b_55_2_0 d b0 x w f).trans ((pm_call1_of (z7 (d + 2) 55 b0 x w f (by decide))).trans (e21b_58_2 d  ((q7 55 b0 x w f).1) ((q7 55 b0 x w f).2) f)))
theorem s21b_58_1_0 {sc : pm_Sc} (d : Nat)  (x : Nat → Nat → Int32) (w : Nat → Nat → Bool) (f : Nat → Nat → Nat) : pm_ev (pm_call pm_Tf sc (d + 4)) sc 0 pm_c21 58 [(1, .inl 1), (0, pm_r 48)] [] (pm_u x w f) = (if (x 48 5) = 0 then pm_ev (pm_call pm_Tf sc (d + 4)) sc 0 pm_c21 55 [(1, .inl 2), (0, pm_r 48)] [.inl 0, pm_r 55] (pm_u x w f) else pm_ev (pm_call pm_Tf sc (d + 4)) sc 0 pm_c21 44 [(1, .inl 2), (0, pm_r 48)] [.inl 2, pm_r 50, pm_r 55] (pm_u x w f)) := by
  exact (pm_ev_iter [11, 15, 44, 55, 64, 74] 3000 _ _ _ _).trans rfl
theorem s21b_58_1_1 {sc : pm_Sc} (d : Nat)  (x : Nat → Nat → Int32) (w : Nat → Nat → Bool) (f : Nat → Nat → Nat) : pm_ev (pm_call pm_Tf sc (d + 4)) sc 0 pm_c21 44 [(1, .inl 2), (0, pm_r 48)] [.inl 2, pm_r 50, pm_r 55] (pm_u x w f) = pm_call1 (fun v u => pm_ev (pm_call pm_Tf sc (d + 4)) sc 0 pm_c21 47 [(1, .inl 2), (0, pm_r 48)] (v.toList ++ [pm_r 55]) u) none ((pm_call pm_Tf sc (d + 4)) 3 [pm_r 50, .inl 2] (pm_u x w f)) := by
  exact (pm_ev_step _ _ _ _).trans rfl
theorem s21b_58_1_2 {sc : pm_Sc} (d : Nat)  (x : Nat → Nat → Int32) (w : Nat → Nat → Bool) (f : Nat → Nat → Nat) : pm_ev (pm_call pm_Tf sc (d + 4)) sc 0 pm_c21 47 [(1, .inl 2), (0, pm_r 48)] [pm_b (q3 50 2 x w f), pm_r 55] (pm_u x w f) = (if (q3 50 2 x w f) = true then pm_ev (pm_call pm_Tf sc (d + 4)) sc 0 pm_c21 55 [(1, .inl 2), (0, pm_r 48)] [.inl 0, pm_r 55] (pm_u x w f) else pm_ev (pm_call pm_Tf sc (d + 4)) sc 0 pm_c21 55 [(1, .inl 2), (0, pm_r 48)] [.inl 1, pm_r 55] (pm_u x w f)) := by
  exact (pm_ev_iter [11, 15, 44, 55, 64, 74] 3000 _ _ _ _).trans rfl
def q21b_58_1 (x : Nat → Nat → Int32) (w : Nat → Nat → Bool) (f : Nat → Nat → Nat) : (Nat → Nat → Int32) × (Nat → Nat → Bool) := (if (x 48 5) = 0 then q21b_55_2 false x w f else (if (q3 50 2 x w f) = true then q21b_55_2 false x w f else q21b_55_2 true x w f))
theorem e21b_58_1 {sc : pm_Sc} (d : Nat)  (x : Nat → Nat → Int32) (w : Nat → Nat → Bool) (f : Nat → Nat → Nat) : pm_ev (pm_call pm_Tf sc (d + 4)) sc 0 pm_c21 58 [(1, .inl 1), (0, pm_r 48)] [] (pm_u x w f) = pm_ev (pm_call pm_Tf sc (d + 4)) sc 0 pm_c21 64 [(1, .inl 8), (0, pm_r 48)] [] (pm_u (q21b_58_1 x w f).1 (q21b_58_1 x w f).2 f) := (s21b_58_1_0 d  x w f).trans (pm_iteG (g := (fun (t : (Nat → Nat → Int32) × (Nat → Nat → Bool)) => pm_ev (pm_call pm_Tf sc (d + 4)) sc 0 pm_c21 64 [(1, .inl 8), (0, pm_r 48)] [] (pm_u t.1 t.2 f))) (fun _ => e21b_55_2 d  false x w f) (fun _ => ((s21b_58_1_1 d  x w f).trans ((pm_call1_of (z3 (d + 4) 50 2 x w f (by decide))).trans ((s21b_58_1_2 d  x w f).trans (pm_iteG (g := (fun (t : (Nat → Nat → Int32) × (Nat → Nat → Bool)) => pm_ev (pm_call pm_Tf sc (d + 4)) sc 0 pm_c21 64 [(1, .inl 8), (0, pm_r 48)] [] (pm_u t.1 t.2 f))) (fun _ => e21b_55_2 d  false x w f) (fun _ => e21b_55_2 d  true x w f)))))))
theorem s21b_55_1_0 {sc : pm_Sc} (d : Nat) (b0 : Bool) (x : Nat → Nat → Int32) (w : Nat → Nat → Bool) (f : Nat → Nat → Nat) : pm_ev (pm_call pm_Tf sc (d + 4)) sc 0 pm_c21 55 [(1, .inl 1), (0, pm_r 48)] [pm_bi b0, pm_r 53] (pm_u x w f) = pm_call1 (fun v u => pm_ev (pm_call pm_Tf sc (d + 4)) sc 0 pm_c21 58 [(1, .inl 1), (0, pm_r 48)] (v.toList ++ []) u) none ((pm_call pm_Tf sc (d + 4)) 7 [pm_r 53, pm_bi b0] (pm_u x w f)) := by
  cases b0 <;> exact (pm_ev_step _ _ _ _).trans rfl
def q21b_55_1 (b0 : Bool) (x : Nat → Nat → Int32) (w : Nat → Nat → Bool) (f : Nat → Nat → Nat) : (Nat → Nat → Int32) × (Nat → Nat → Bool) := q21b_58_1 ((q7 53 b0 x w f).1) ((q7 53 b0 x w f).2) f
theorem e21b_55_1 {sc : pm_Sc} (d : Nat) (b0 : Bool) (x : Nat → Nat → Int32) (w : Nat → Nat → Bool) (f : Nat → Nat → Nat) : pm_ev (pm_call pm_Tf sc (d + 4)) sc 0 pm_c21 55 [(1, .inl 1), (0, pm_r 48)] [pm_bi b0, pm_r 53] (pm_u x w f) = pm_ev (pm_call pm_Tf sc (d + 4)) sc 0 pm_c21 64 [(1, .inl 8), (0, pm_r 48)] [] (pm_u (q21b_55_1 b0 x w f).1 (q21b_55_1 b0 x w f).2 f) := ((s21b_55_1_0 d b0 x w f).trans ((pm_call1_of (z7 (d + 2) 53 b0 x w f (by decide))).trans (e21b_58_1 d  ((q7 53 b0 x w f).1) ((q7 53 b0 x w f).2) f)))
theorem s21b_58_0 {sc : pm_Sc} (d : Nat)  (x : Nat → Nat → Int32) (w : Nat → Nat → Bool) (f : Nat → Nat → Nat) : pm_ev (pm_call pm_Tf sc (d + 4)) sc 0 pm_c21 58 [(1, .inl 0), (0, pm_r 48)] [] (pm_u x w f) = (if (x 48 5) = 0 then pm_ev (pm_call pm_Tf sc (d + 4)) sc 0 pm_c21 55 [(1, .inl 1), (0, pm_r 48)] [.inl 0, pm_r 53] (pm_u x w f) else pm_ev (pm_call pm_Tf sc (d + 4)) sc 0 pm_c21 44 [(1, .inl 1), (0, pm_r 48)] [.inl 1, pm_r 50, pm_r 53] (pm_u x w f)) := by
  exact (pm_ev_iter [11, 15, 44, 55, 64, 74] 3000 _ _ _ _).trans rfl
theorem s21b_58_1 {sc : pm_Sc} (d : Nat)  (x : Nat → Nat → Int32) (w : Nat → Nat → Bool) (f : Nat → Nat → Nat) : pm_ev (pm_call pm_Tf sc (d + 4)) sc 0 pm_c21 44 [(1, .inl 1), (0, pm_r 48)] [.inl 1, pm_r 50, pm_r 53] (pm_u x w f) = pm_call1 (fun v u => pm_ev (pm_call pm_Tf sc (d + 4)) sc 0 pm_c21 47 [(1, .inl 1), (0, pm_r 48)] (v.toList ++ [pm_r 53]) u) none ((pm_call pm_Tf sc (d + 4)) 3 [pm_r 50, .inl 1] (pm_u x w f)) := by
  exact (pm_ev_step _ _ _ _).trans rfl
theorem s21b_58_2 {sc : pm_Sc} (d : Nat)  (x : Nat → Nat → Int32) (w : Nat → Nat → Bool) (f : Nat → Nat → Nat) : pm_ev (pm_call pm_Tf sc (d + 4)) sc 0 pm_c21 47 [(1, .inl 1), (0, pm_r 48)] [pm_b (q3 50 1 x w f), pm_r 53] (pm_u x w f) = (if (q3 50 1 x w f) = true then pm_ev (pm_call pm_Tf sc (d + 4)) sc 0 pm_c21 55 [(1, .inl 1), (0, pm_r 48)] [.inl 0, pm_r 53] (pm_u x w f) else pm_ev (pm_call pm_Tf sc (d + 4)) sc 0 pm_c21 55 [(1, .inl 1), (0, pm_r 48)] [.inl 1, pm_r 53] (pm_u x w f)) := by
  exact (pm_ev_iter [11, 15, 44, 55, 64, 74] 3000 _ _ _ _).trans rfl
def q21b_58 (x : Nat → Nat → Int32) (w : Nat → Nat → Bool) (f : Nat → Nat → Nat) : (Nat → Nat → Int32) × (Nat → Nat → Bool) := (if (x 48 5) = 0 then q21b_55_1 false x w f else (if (q3 50 1 x w f) = true then q21b_55_1 false x w f else q21b_55_1 true x w f))
theorem e21b_58 {sc : pm_Sc} (d : Nat)  (x : Nat → Nat → Int32) (w : Nat → Nat → Bool) (f : Nat → Nat → Nat) : pm_ev (pm_call pm_Tf sc (d + 4)) sc 0 pm_c21 58 [(1, .inl 0), (0, pm_r 48)] [] (pm_u x w f) = pm_ev (pm_call pm_Tf sc (d + 4)) sc 0 pm_c21 64 [(1, .inl 8), (0, pm_r 48)] [] (pm_u (q21b_58 x w f).1 (q21b_58 x w f).2 f) := (s21b_58_0 d  x w f).trans (pm_iteG (g := (fun (t : (Nat → Nat → Int32) × (Nat → Nat → Bool)) => pm_ev (pm_call pm_Tf sc (d + 4)) sc 0 pm_c21 64 [(1, .inl 8), (0, pm_r 48)] [] (pm_u t.1 t.2 f))) (fun _ => e21b_55_1 d  false x w f) (fun _ => ((s21b_58_1 d  x w f).trans ((pm_call1_of (z3 (d + 4) 50 1 x w f (by decide))).trans ((s21b_58_2 d  x w f).trans (pm_iteG (g := (fun (t : (Nat → Nat → Int32) × (Nat → Nat → Bool)) => pm_ev (pm_call pm_Tf sc (d + 4)) sc 0 pm_c21 64 [(1, .inl 8), (0, pm_r 48)] [] (pm_u t.1 t.2 f))) (fun _ => e21b_55_1 d  false x w f) (fun _ => e21b_55_1 d  true x w f)))))))
theorem s21b_55_0 {sc : pm_Sc} (d : Nat) (b0 : Bool) (x : Nat → Nat → Int32) (w : Nat → Nat → Bool) (f : Nat → Nat → Nat) : pm_ev (pm_call pm_Tf sc (d + 4)) sc 0 pm_c21 55 [(1, .inl 0), (0, pm_r 48)] [pm_bi b0, pm_r 51] (pm_u x w f) = pm_call1 (fun v u => pm_ev (pm_call pm_Tf sc (d + 4)) sc 0 pm_c21 58 [(1, .inl 0), (0, pm_r 48)] (v.toList ++ []) u) none ((pm_call pm_Tf sc (d + 4)) 7 [pm_r 51, pm_bi b0] (pm_u x w f)) := by
  cases b0 <;> exact (pm_ev_step _ _ _ _).trans rfl
def q21b_55 (b0 : Bool) (x : Nat → Nat → Int32) (w : Nat → Nat → Bool) (f : Nat → Nat → Nat) : (Nat → Nat → Int32) × (Nat → Nat → Bool) := q21b_58 ((q7 51 b0 x w f).1) ((q7 51 b0 x w f).2) f
theorem e21b_55 {sc : pm_Sc} (d : Nat) (b0 : Bool) (x : Nat → Nat → Int32) (w : Nat → Nat → Bool) (f : Nat → Nat → Nat) : pm_ev (pm_call pm_Tf sc (d + 4)) sc 0 pm_c21 55 [(1, .inl 0), (0, pm_r 48)] [pm_bi b0, pm_r 51] (pm_u x w f) = pm_ev (pm_call pm_Tf sc (d + 4)) sc 0 pm_c21 64 [(1, .inl 8), (0, pm_r 48)] [] (pm_u (q21b_55 b0 x w f).1 (q21b_55 b0 x w f).2 f) := ((s21b_55_0 d b0 x w f).trans ((pm_call1_of (z7 (d + 2) 51 b0 x w f (by decide))).trans (e21b_58 d  ((q7 51 b0 x w f).1) ((q7 51 b0 x w f).2) f)))
theorem s21b_18_0 {sc : pm_Sc} (d : Nat)  (x : Nat → Nat → Int32) (w : Nat → Nat → Bool) (f : Nat → Nat → Nat) : pm_ev (pm_call pm_Tf sc (d + 4)) sc 0 pm_c21 18 [(0, pm_r 48)] [] (pm_u x w f) = (if (x 48 5) = 0 then pm_ev (pm_call pm_Tf sc (d + 4)) sc 0 pm_c21 55 [(1, .inl 0), (0, pm_r 48)] [.inl 0, pm_r 51] (pm_u x w f) else pm_ev (pm_call pm_Tf sc (d + 4)) sc 0 pm_c21 44 [(1, .inl 0), (0, pm_r 48)] [.inl 0, pm_r 50, pm_r 51] (pm_u x w f)) := by
  exact (pm_ev_iter [11, 15, 44, 55, 64, 74] 3000 _ _ _ _).trans rfl
theorem s21b_18_1 {sc : pm_Sc} (d : Nat)  (x : Nat → Nat → Int32) (w : Nat → Nat → Bool) (f : Nat → Nat → Nat) : pm_ev (pm_call pm_Tf sc (d + 4)) sc 0 pm_c21 44 [(1, .inl 0), (0, pm_r 48)] [.inl 0, pm_r 50, pm_r 51] (pm_u x w f) = pm_call1 (fun v u => pm_ev (pm_call pm_Tf sc (d + 4)) sc 0 pm_c21 47 [(1, .inl 0), (0, pm_r 48)] (v.toList ++ [pm_r 51]) u) none ((pm_call pm_Tf sc (d + 4)) 3 [pm_r 50, .inl 0] (pm_u x w f)) := by
  exact (pm_ev_step _ _ _ _).trans rfl
theorem s21b_18_2 {sc : pm_Sc} (d : Nat)  (x : Nat → Nat → Int32) (w : Nat → Nat → Bool) (f : Nat → Nat → Nat) : pm_ev (pm_call pm_Tf sc (d + 4)) sc 0 pm_c21 47 [(1, .inl 0), (0, pm_r 48)] [pm_b (q3 50 0 x w f), pm_r 51] (pm_u x w f) = (if (q3 50 0 x w f) = true then pm_ev (pm_call pm_Tf sc (d + 4)) sc 0 pm_c21 55 [(1, .inl 0), (0, pm_r 48)] [.inl 0, pm_r 51] (pm_u x w f) else pm_ev (pm_call pm_Tf sc (d + 4)) sc 0 pm_c21 55 [(1, .inl 0), (0, pm_r 48)] [.inl 1, pm_r 51] (pm_u x w f)) := by
  exact (pm_ev_iter [11, 15, 44, 55, 64, 74] 3000 _ _ _ _).trans rfl
def q21b_18 (x : Nat → Nat → Int32) (w : Nat → Nat → Bool) (f : Nat → Nat → Nat) : (Nat → Nat → Int32) × (Nat → Nat → Bool) := (if (x 48 5) = 0 then q21b_55 false x w f else (if (q3 50 0 x w f) = true then q21b_55 false x w f else q21b_55 true x w f))
theorem e21b_18 {sc : pm_Sc} (d : Nat)  (x : Nat → Nat → Int32) (w : Nat → Nat → Bool) (f : Nat → Nat → Nat) : pm_ev (pm_call pm_Tf sc (d + 4)) sc 0 pm_c21 18 [(0, pm_r 48)] [] (pm_u x w f) = pm_ev (pm_call pm_Tf sc (d + 4)) sc 0 pm_c21 64 [(1, .inl 8), (0, pm_r 48)] [] (pm_u (q21b_18 x w f).1 (q21b_18 x w f).2 f) := (s21b_18_0 d  x w f).trans (pm_iteG (g := (fun (t : (Nat → Nat → Int32) × (Nat → Nat → Bool)) => pm_ev (pm_call pm_Tf sc (d + 4)) sc 0 pm_c21 64 [(1, .inl 8), (0, pm_r 48)] [] (pm_u t.1 t.2 f))) (fun _ => e21b_55 d  false x w f) (fun _ => ((s21b_18_1 d  x w f).trans ((pm_call1_of (z3 (d + 4) 50 0 x w f (by decide))).trans ((s21b_18_2 d  x w f).trans (pm_iteG (g := (fun (t : (Nat → Nat → Int32) × (Nat → Nat → Bool)) => pm_ev (pm_call pm_Tf sc (d + 4)) sc 0 pm_c21 64 [(1, .inl 8), (0, pm_r 48)] [] (pm_u t.1 t.2 f))) (fun _ => e21b_55 d  false x w f) (fun _ => e21b_55 d  true x w f)))))))
theorem s21b_0 {sc : pm_Sc} (d : Nat)  (x : Nat → Nat → Int32) (w : Nat → Nat → Bool) (f : Nat → Nat → Nat) : pm_ev (pm_call pm_Tf sc (d + 4)) sc 0 pm_c21 0 [(0, pm_r 48)] [] (pm_u x w f) = pm_ev (pm_call pm_Tf sc (d + 4)) sc 0 pm_c21 11 [(0, pm_r 48)] [pm_r 48] (pm_u (pm_up x 48 4 ((x 48 4) + (1 : Int32))) w f) := by
  exact (pm_ev_iter [11, 15, 44, 55, 64, 74] 3000 _ _ _ _).trans rfl
theorem s21b_1 {sc : pm_Sc} (d : Nat)  (x : Nat → Nat → Int32) (w : Nat → Nat → Bool) (f : Nat → Nat → Nat) : pm_ev (pm_call pm_Tf sc (d + 4)) sc 0 pm_c21 11 [(0, pm_r 48)] [pm_r 48] (pm_u (pm_up x 48 4 ((x 48 4) + (1 : Int32))) w f) = pm_call1 (fun v u => pm_ev (pm_call pm_Tf sc (d + 4)) sc 0 pm_c21 14 [(0, pm_r 48)] (v.toList ++ []) u) none ((pm_call pm_Tf sc (d + 4)) 41 [pm_r 48] (pm_u (pm_up x 48 4 ((x 48 4) + (1 : Int32))) w f)) := by
  exact (pm_ev_step _ _ _ _).trans rfl
theorem s21b_2 {sc : pm_Sc} (d : Nat)  (x : Nat → Nat → Int32) (w : Nat → Nat → Bool) (f : Nat → Nat → Nat) : pm_ev (pm_call pm_Tf sc (d + 4)) sc 0 pm_c21 14 [(0, pm_r 48)] [] (pm_u (pm_up x 48 4 ((x 48 4) + (1 : Int32))) w f) = pm_ev (pm_call pm_Tf sc (d + 4)) sc 0 pm_c21 15 [(0, pm_r 48)] [pm_r 48] (pm_u (pm_up x 48 4 ((x 48 4) + (1 : Int32))) w f) := by
  exact (pm_ev_iter [11, 15, 44, 55, 64, 74] 3000 _ _ _ _).trans rfl
theorem s21b_3 {sc : pm_Sc} (d : Nat)  (x : Nat → Nat → Int32) (w : Nat → Nat → Bool) (f : Nat → Nat → Nat) : pm_ev (pm_call pm_Tf sc (d + 4)) sc 0 pm_c21 15 [(0, pm_r 48)] [pm_r 48] (pm_u (pm_up x 48 4 ((x 48 4) + (1 : Int32))) w f) = pm_call1 (fun v u => pm_ev (pm_call pm_Tf sc (d + 4)) sc 0 pm_c21 18 [(0, pm_r 48)] (v.toList ++ []) u) none ((pm_call pm_Tf sc (d + 4)) 22 [pm_r 48] (pm_u (pm_up x 48 4 ((x 48 4) + (1 : Int32))) w f)) := by
  exact (pm_ev_step _ _ _ _).trans rfl
def q21b (x : Nat → Nat → Int32) (w : Nat → Nat → Bool) (f : Nat → Nat → Nat) : (Nat → Nat → Int32) × (Nat → Nat → Bool) := q21b_18 ((q22b (pm_up x 48 4 ((x 48 4) + (1 : Int32))) w f).1) ((q22b (pm_up x 48 4 ((x 48 4) + (1 : Int32))) w f).2) f
theorem e21b {sc : pm_Sc} (d : Nat)  (x : Nat → Nat → Int32) (w : Nat → Nat → Bool) (f : Nat → Nat → Nat) : pm_ev (pm_call pm_Tf sc (d + 4)) sc 0 pm_c21 0 [(0, pm_r 48)] [] (pm_u x w f) = pm_ev (pm_call pm_Tf sc (d + 4)) sc 0 pm_c21 64 [(1, .inl 8), (0, pm_r 48)] [] (pm_u (q21b x w f).1 (q21b x w f).2 f) := (s21b_0 d  x w f).trans (((s21b_1 d  x w f).trans ((pm_call1_of (z41b (d + 4) (pm_up x 48 4 ((x 48 4) + (1 : Int32))) w f)).trans ((s21b_2 d  x w f).trans (((s21b_3 d  x w f).trans ((pm_call1_of (z22b (d + 1) (pm_up x 48 4 ((x 48 4) + (1 : Int32))) w f)).trans (e21b_18 d  ((q22b (pm_up x 48 4 ((x 48 4) + (1 : Int32))) w f).1) ((q22b (pm_up x 48 4 ((x 48 4) + (1 : Int32))) w f).2) f))))))))
theorem s20b_30_0 {sc : pm_Sc} (d : Nat)  (x : Nat → Nat → Int32) (w : Nat → Nat → Bool) (f : Nat → Nat → Nat) : pm_ev (pm_call pm_Tf sc (d + 0)) sc 0 pm_c20 30 [(1, .inl 8), (0, pm_r 48)] [] (pm_u x w f) = some (none, pm_u (pm_up (pm_up (pm_up (pm_up (pm_up (pm_up x 15 1 0) 48 4 0) 48 5 0) 48 6 0) 48 7 0) 48 8 0) w f) := by
  exact (pm_ev_iter [14, 27] 3000 _ _ _ _).trans rfl
def q20b_30 (x : Nat → Nat → Int32) (w : Nat → Nat → Bool) (f : Nat → Nat → Nat) : (Nat → Nat → Int32) × (Nat → Nat → Bool) := (pm_up (pm_up (pm_up (pm_up (pm_up (pm_up x 15 1 0) 48 4 0) 48 5 0) 48 6 0) 48 7 0) 48 8 0, w)
theorem e20b_30 {sc : pm_Sc} (d : Nat)  (x : Nat → Nat → Int32) (w : Nat → Nat → Bool) (f : Nat → Nat → Nat) : pm_ev (pm_call pm_Tf sc (d + 0)) sc 0 pm_c20 30 [(1, .inl 8), (0, pm_r 48)] [] (pm_u x w f) = some (pm_h0 f (q20b_30 x w f)) := (s20b_30_0 d  x w f).trans (rfl)
theorem s20b_17_7_0 {sc : pm_Sc} (d : Nat)  (x : Nat → Nat → Int32) (w : Nat → Nat → Bool) (f : Nat → Nat → Nat) : pm_ev (pm_call pm_Tf sc (d + 0)) sc 0 pm_c20 17 [(1, .inl 7), (0, pm_r 48)] [] (pm_u x w f) = pm_ev (pm_call pm_Tf sc (d + 0)) sc 0 pm_c20 27 [(1, .inl 8), (0, pm_r 48)] [pm_r 50] (pm_u x w f) := by
  exact (pm_ev_iter [14, 27] 3000 _ _ _ _).trans rfl
theorem s20b_17_7_1 {sc : pm_Sc} (d : Nat)  (x : Nat → Nat → Int32) (w : Nat → Nat → Bool) (f : Nat → Nat → Nat) : pm_ev (pm_call pm_Tf sc (d + 0)) sc 0 pm_c20 27 [(1, .inl 8), (0, pm_r 48)] [pm_r 50] (pm_u x w f) = pm_call1 (fun v u => pm_ev (pm_call pm_Tf sc (d + 0)) sc 0 pm_c20 30 [(1, .inl 8), (0, pm_r 48)] (v.toList ++ []) u) none ((pm_call pm_Tf sc (d + 0)) 1 [pm_r 50] (pm_u x w f)) := by
  exact (pm_ev_step _ _ _ _).trans rfl
def q20b_17_7 (x : Nat → Nat → Int32) (w : Nat → Nat → Bool) (f : Nat → Nat → Nat) : (Nat → Nat → Int32) × (Nat → Nat → Bool) := q20b_30 ((q1 50 x w f).1) ((q1 50 x w f).2) f
theorem e20b_17_7 {sc : pm_Sc} (d : Nat)  (x : Nat → Nat → Int32) (w : Nat → Nat → Bool) (f : Nat → Nat → Nat) : pm_ev (pm_call pm_Tf sc (d + 0)) sc 0 pm_c20 17 [(1, .inl 7), (0, pm_r 48)] [] (pm_u x w f) = some (pm_h0 f (q20b_17_7 x w f)) := (s20b_17_7_0 d  x w f).trans (((s20b_17_7_1 d  x w f).trans ((pm_call1_of (z1 (d + 0) 50 x w f (by decide))).trans (e20b_30 d  ((q1 50 x w f).1) ((q1 50 x w f).2) f))))
theorem s20b_17_6_0 {sc : pm_Sc} (d : Nat)  (x : Nat → Nat → Int32) (w : Nat → Nat → Bool) (f : Nat → Nat → Nat) : pm_ev (pm_call pm_Tf sc (d + 0)) sc 0 pm_c20 17 [(1, .inl 6), (0, pm_r 48)] [] (pm_u x w f) = pm_ev (pm_call pm_Tf sc (d + 0)) sc 0 pm_c20 14 [(1, .inl 7), (0, pm_r 48)] [pm_r 65] (pm_u x w f) := by
  exact (pm_ev_iter [14, 27] 3000 _ _ _ _).trans rfl
theorem s20b_17_6_1 {sc : pm_Sc} (d : Nat)  (x : Nat → Nat → Int32) (w : Nat → Nat → Bool) (f : Nat → Nat → Nat) : pm_ev (pm_call pm_Tf sc (d + 0)) sc 0 pm_c20 14 [(1, .inl 7), (0, pm_r 48)] [pm_r 65] (pm_u x w f) = pm_call1 (fun v u => pm_ev (pm_call pm_Tf sc (d + 0)) sc 0 pm_c20 17 [(1, .inl 7), (0, pm_r 48)] (v.toList ++ []) u) none ((pm_call pm_Tf sc (d + 0)) 6 [pm_r 65] (pm_u x w f)) := by
  exact (pm_ev_step _ _ _ _).trans rfl
def q20b_17_6 (x : Nat → Nat → Int32) (w : Nat → Nat → Bool) (f : Nat → Nat → Nat) : (Nat → Nat → Int32) × (Nat → Nat → Bool) := q20b_17_7 ((q6 65 x w f).1) ((q6 65 x w f).2) f
theorem e20b_17_6 {sc : pm_Sc} (d : Nat)  (x : Nat → Nat → Int32) (w : Nat → Nat → Bool) (f : Nat → Nat → Nat) : pm_ev (pm_call pm_Tf sc (d + 0)) sc 0 pm_c20 17 [(1, .inl 6), (0, pm_r 48)] [] (pm_u x w f) = some (pm_h0 f (q20b_17_6 x w f)) := (s20b_17_6_0 d  x w f).trans (((s20b_17_6_1 d  x w f).trans ((pm_call1_of (z6 (d + 0) 65 x w f (by decide))).trans (e20b_17_7 d  ((q6 65 x w f).1) ((q6 65 x w f).2) f))))
theorem s20b_17_5_0 {sc : pm_Sc} (d : Nat)  (x : Nat → Nat → Int32) (w : Nat → Nat → Bool) (f : Nat → Nat → Nat) : pm_ev (pm_call pm_Tf sc (d + 0)) sc 0 pm_c20 17 [(1, .inl 5), (0, pm_r 48)] [] (pm_u x w f) = pm_ev (pm_call pm_Tf sc (d + 0)) sc 0 pm_c20 14 [(1, .inl 6), (0, pm_r 48)] [pm_r 63] (pm_u x w f) := by
  exact (pm_ev_iter [14, 27] 3000 _ _ _ _).trans rfl
theorem s20b_17_5_1 {sc : pm_Sc} (d : Nat)  (x : Nat → Nat → Int32) (w : Nat → Nat → Bool) (f : Nat → Nat → Nat) : pm_ev (pm_call pm_Tf sc (d + 0)) sc 0 pm_c20 14 [(1, .inl 6), (0, pm_r 48)] [pm_r 63] (pm_u x w f) = pm_call1 (fun v u => pm_ev (pm_call pm_Tf sc (d + 0)) sc 0 pm_c20 17 [(1, .inl 6), (0, pm_r 48)] (v.toList ++ []) u) none ((pm_call pm_Tf sc (d + 0)) 6 [pm_r 63] (pm_u x w f)) := by
  exact (pm_ev_step _ _ _ _).trans rfl
def q20b_17_5 (x : Nat → Nat → Int32) (w : Nat → Nat → Bool) (f : Nat → Nat → Nat) : (Nat → Nat → Int32) × (Nat → Nat → Bool) := q20b_17_6 ((q6 63 x w f).1) ((q6 63 x w f).2) f
theorem e20b_17_5 {sc : pm_Sc} (d : Nat)  (x : Nat → Nat → Int32) (w : Nat → Nat → Bool) (f : Nat → Nat → Nat) : pm_ev (pm_call pm_Tf sc (d + 0)) sc 0 pm_c20 17 [(1, .inl 5), (0, pm_r 48)] [] (pm_u x w f) = some (pm_h0 f (q20b_17_5 x w f)) := (s20b_17_5_0 d  x w f).trans (((s20b_17_5_1 d  x w f).trans ((pm_call1_of (z6 (d + 0) 63 x w f (by decide))).trans (e20b_17_6 d  ((q6 63 x w f).1) ((q6 63 x w f).2) f))))
theorem s20b_17_4_0 {sc : pm_Sc} (d : Nat)  (x : Nat → Nat → Int32) (w : Nat → Nat → Bool) (f : Nat → Nat → Nat) : pm_ev (pm_call pm_Tf sc (d + 0)) sc 0 pm_c20 17 [(1, .inl 4), (0, pm_r 48)] [] (pm_u x w f) = pm_ev (pm_call pm_Tf sc (d + 0)) sc 0 pm_c20 14 [(1, .inl 5), (0, pm_r 48)] [pm_r 61] (pm_u x w f) := by
  exact (pm_ev_iter [14, 27] 3000 _ _ _ _).trans rfl
theorem s20b_17_4_1 {sc : pm_Sc} (d : Nat)  (x : Nat → Nat → Int32) (w : Nat → Nat → Bool) (f : Nat → Nat → Nat) : pm_ev (pm_call pm_Tf sc (d + 0)) sc 0 pm_c20 14 [(1, .inl 5), (0, pm_r 48)] [pm_r 61] (pm_u x w f) = pm_call1 (fun v u => pm_ev (pm_call pm_Tf sc (d + 0)) sc 0 pm_c20 17 [(1, .inl 5), (0, pm_r 48)] (v.toList ++ []) u) none ((pm_call pm_Tf sc (d + 0)) 6 [pm_r 61] (pm_u x w f)) := by
  exact (pm_ev_step _ _ _ _).trans rfl
def q20b_17_4 (x : Nat → Nat → Int32) (w : Nat → Nat → Bool) (f : Nat → Nat → Nat) : (Nat → Nat → Int32) × (Nat → Nat → Bool) := q20b_17_5 ((q6 61 x w f).1) ((q6 61 x w f).2) f
theorem e20b_17_4 {sc : pm_Sc} (d : Nat)  (x : Nat → Nat → Int32) (w : Nat → Nat → Bool) (f : Nat → Nat → Nat) : pm_ev (pm_call pm_Tf sc (d + 0)) sc 0 pm_c20 17 [(1, .inl 4), (0, pm_r 48)] [] (pm_u x w f) = some (pm_h0 f (q20b_17_4 x w f)) := (s20b_17_4_0 d  x w f).trans (((s20b_17_4_1 d  x w f).trans ((pm_call1_of (z6 (d + 0) 61 x w f (by decide))).trans (e20b_17_5 d  ((q6 61 x w f).1) ((q6 61 x w f).2) f))))
theorem s20b_17_3_0 {sc : pm_Sc} (d : Nat)  (x : Nat → Nat → Int32) (w : Nat → Nat → Bool) (f : Nat → Nat → Nat) : pm_ev (pm_call pm_Tf sc (d + 0)) sc 0 pm_c20 17 [(1, .inl 3), (0, pm_r 48)] [] (pm_u x w f) = pm_ev (pm_call pm_Tf sc (d + 0)) sc 0 pm_c20 14 [(1, .inl 4), (0, pm_r 48)] [pm_r 59] (pm_u x w f) := by
  exact (pm_ev_iter [14, 27] 3000 _ _ _ _).trans rfl
theorem s20b_17_3_1 {sc : pm_Sc} (d : Nat)  (x : Nat → Nat → Int32) (w : Nat → Nat → Bool) (f : Nat → Nat → Nat) : pm_ev (pm_call pm_Tf sc (d + 0)) sc 0 pm_c20 14 [(1, .inl 4), (0, pm_r 48)] [pm_r 59] (pm_u x w f) = pm_call1 (fun v u => pm_ev (pm_call pm_Tf sc (d + 0)) sc 0 pm_c20 17 [(1, .inl 4), (0, pm_r 48)] (v.toList ++ []) u) none ((pm_call pm_Tf sc (d + 0)) 6 [pm_r 59] (pm_u x w f)) := by
  exact (pm_ev_step _ _ _ _).trans rfl
def q20b_17_3 (x : Nat → Nat → Int32) (w : Nat → Nat → Bool) (f : Nat → Nat → Nat) : (Nat → Nat → Int32) × (Nat → Nat → Bool) := q20b_17_4 ((q6 59 x w f).1) ((q6 59 x w f).2) f
theorem e20b_17_3 {sc : pm_Sc} (d : Nat)  (x : Nat → Nat → Int32) (w : Nat → Nat → Bool) (f : Nat → Nat → Nat) : pm_ev (pm_call pm_Tf sc (d + 0)) sc 0 pm_c20 17 [(1, .inl 3), (0, pm_r 48)] [] (pm_u x w f) = some (pm_h0 f (q20b_17_3 x w f)) := (s20b_17_3_0 d  x w f).trans (((s20b_17_3_1 d  x w f).trans ((pm_call1_of (z6 (d + 0) 59 x w f (by decide))).trans (e20b_17_4 d  ((q6 59 x w f).1) ((q6 59 x w f).2) f))))
theorem s20b_17_2_0 {sc : pm_Sc} (d : Nat)  (x : Nat → Nat → Int32) (w : Nat → Nat → Bool) (f : Nat → Nat → Nat) : pm_ev (pm_call pm_Tf sc (d + 0)) sc 0 pm_c20 17 [(1, .inl 2), (0, pm_r 48)] [] (pm_u x w f) = pm_ev (pm_call pm_Tf sc (d + 0)) sc 0 pm_c20 14 [(1, .inl 3), (0, pm_r 48)] [pm_r 57] (pm_u x w f) := by
  exact (pm_ev_iter [14, 27] 3000 _ _ _ _).trans rfl
theorem s20b_17_2_1 {sc : pm_Sc} (d : Nat)  (x : Nat → Nat → Int32) (w : Nat → Nat → Bool) (f : Nat → Nat → Nat) : pm_ev (pm_call pm_Tf sc (d + 0)) sc 0 pm_c20 14 [(1, .inl 3), (0, pm_r 48)] [pm_r 57] (pm_u x w f) = pm_call1 (fun v u => pm_ev (pm_call pm_Tf sc (d + 0)) sc 0 pm_c20 17 [(1, .inl 3), (0, pm_r 48)] (v.toList ++ []) u) none ((pm_call pm_Tf sc (d + 0)) 6 [pm_r 57] (pm_u x w f)) := by
  exact (pm_ev_step _ _ _ _).trans rfl
def q20b_17_2 (x : Nat → Nat → Int32) (w : Nat → Nat → Bool) (f : Nat → Nat → Nat) : (Nat → Nat → Int32) × (Nat → Nat → Bool) := q20b_17_3 ((q6 57 x w f).1) ((q6 57 x w f).2) f
theorem e20b_17_2 {sc : pm_Sc} (d : Nat)  (x : Nat → Nat → Int32) (w : Nat → Nat → Bool) (f : Nat → Nat → Nat) : pm_ev (pm_call pm_Tf sc (d + 0)) sc 0 pm_c20 17 [(1, .inl 2), (0, pm_r 48)] [] (pm_u x w f) = some (pm_h0 f (q20b_17_2 x w f)) := (s20b_17_2_0 d  x w f).trans (((s20b_17_2_1 d  x w f).trans ((pm_call1_of (z6 (d + 0) 57 x w f (by decide))).trans (e20b_17_3 d  ((q6 57 x w f).1) ((q6 57 x w f).2) f))))
theorem s20b_17_1_0 {sc : pm_Sc} (d : Nat)  (x : Nat → Nat → Int32) (w : Nat → Nat → Bool) (f : Nat → Nat → Nat) : pm_ev (pm_call pm_Tf sc (d + 0)) sc 0 pm_c20 17 [(1, .inl 1), (0, pm_r 48)] [] (pm_u x w f) = pm_ev (pm_call pm_Tf sc (d + 0)) sc 0 pm_c20 14 [(1, .inl 2), (0, pm_r 48)] [pm_r 55] (pm_u x w f) := by
  exact (pm_ev_iter [14, 27] 3000 _ _ _ _).trans rfl
theorem s20b_17_1_1 {sc : pm_Sc} (d : Nat)  (x : Nat → Nat → Int32) (w : Nat → Nat → Bool) (f : Nat → Nat → Nat) : pm_ev (pm_call pm_Tf sc (d + 0)) sc 0 pm_c20 14 [(1, .inl 2), (0, pm_r 48)] [pm_r 55] (pm_u x w f) = pm_call1 (fun v u => pm_ev (pm_call pm_Tf sc (d + 0)) sc 0 pm_c20 17 [(1, .inl 2), (0, pm_r 48)] (v.toList ++ []) u) none ((pm_call pm_Tf sc (d + 0)) 6 [pm_r 55] (pm_u x w f)) := by
  exact (pm_ev_step _ _ _ _).trans rfl
def q20b_17_1 (x : Nat → Nat → Int32) (w : Nat → Nat → Bool) (f : Nat → Nat → Nat) : (Nat → Nat → Int32) × (Nat → Nat → Bool) := q20b_17_2 ((q6 55 x w f).1) ((q6 55 x w f).2) f
theorem e20b_17_1 {sc : pm_Sc} (d : Nat)  (x : Nat → Nat → Int32) (w : Nat → Nat → Bool) (f : Nat → Nat → Nat) : pm_ev (pm_call pm_Tf sc (d + 0)) sc 0 pm_c20 17 [(1, .inl 1), (0, pm_r 48)] [] (pm_u x w f) = some (pm_h0 f (q20b_17_1 x w f)) := (s20b_17_1_0 d  x w f).trans (((s20b_17_1_1 d  x w f).trans ((pm_call1_of (z6 (d + 0) 55 x w f (by decide))).trans (e20b_17_2 d  ((q6 55 x w f).1) ((q6 55 x w f).2) f))))
theorem s20b_17_0 {sc : pm_Sc} (d : Nat)  (x : Nat → Nat → Int32) (w : Nat → Nat → Bool) (f : Nat → Nat → Nat) : pm_ev (pm_call pm_Tf sc (d + 0)) sc 0 pm_c20 17 [(1, .inl 0), (0, pm_r 48)] [] (pm_u x w f) = pm_ev (pm_call pm_Tf sc (d + 0)) sc 0 pm_c20 14 [(1, .inl 1), (0, pm_r 48)] [pm_r 53] (pm_u x w f) := by
  exact (pm_ev_iter [14, 27] 3000 _ _ _ _).trans rfl
theorem s20b_17_1 {sc : pm_Sc} (d : Nat)  (x : Nat → Nat → Int32) (w : Nat → Nat → Bool) (f : Nat → Nat → Nat) : pm_ev (pm_call pm_Tf sc (d + 0)) sc 0 pm_c20 14 [(1, .inl 1), (0, pm_r 48)] [pm_r 53] (pm_u x w f) = pm_call1 (fun v u => pm_ev (pm_call pm_Tf sc (d + 0)) sc 0 pm_c20 17 [(1, .inl 1), (0, pm_r 48)] (v.toList ++ []) u) none ((pm_call pm_Tf sc (d + 0)) 6 [pm_r 53] (pm_u x w f)) := by
  exact (pm_ev_step _ _ _ _).trans rfl
def q20b_17 (x : Nat → Nat → Int32) (w : Nat → Nat → Bool) (f : Nat → Nat → Nat) : (Nat → Nat → Int32) × (Nat → Nat → Bool) := q20b_17_1 ((q6 53 x w f).1) ((q6 53 x w f).2) f
theorem e20b_17 {sc : pm_Sc} (d : Nat)  (x : Nat → Nat → Int32) (w : Nat → Nat → Bool) (f : Nat → Nat → Nat) : pm_ev (pm_call pm_Tf sc (d + 0)) sc 0 pm_c20 17 [(1, .inl 0), (0, pm_r 48)] [] (pm_u x w f) = some (pm_h0 f (q20b_17 x w f)) := (s20b_17_0 d  x w f).trans (((s20b_17_1 d  x w f).trans ((pm_call1_of (z6 (d + 0) 53 x w f (by decide))).trans (e20b_17_1 d  ((q6 53 x w f).1) ((q6 53 x w f).2) f))))
theorem s20b_0 {sc : pm_Sc} (d : Nat)  (x : Nat → Nat → Int32) (w : Nat → Nat → Bool) (f : Nat → Nat → Nat) : pm_ev (pm_call pm_Tf sc (d + 0)) sc 0 pm_c20 0 [(0, pm_r 48)] [] (pm_u x w f) = pm_ev (pm_call pm_Tf sc (d + 0)) sc 0 pm_c20 14 [(1, .inl 0), (0, pm_r 48)] [pm_r 51] (pm_u x w f) := by
  exact (pm_ev_iter [14, 27] 3000 _ _ _ _).trans rfl
theorem s20b_1 {sc : pm_Sc} (d : Nat)  (x : Nat → Nat → Int32) (w : Nat → Nat → Bool) (f : Nat → Nat → Nat) : pm_ev (pm_call pm_Tf sc (d + 0)) sc 0 pm_c20 14 [(1, .inl 0), (0, pm_r 48)] [pm_r 51] (pm_u x w f) = pm_call1 (fun v u => pm_ev (pm_call pm_Tf sc (d + 0)) sc 0 pm_c20 17 [(1, .inl 0), (0, pm_r 48)] (v.toList ++ []) u) none ((pm_call pm_Tf sc (d + 0)) 6 [pm_r 51] (pm_u x w f)) := by
  exact (pm_ev_step _ _ _ _).trans rfl
def q20b (x : Nat → Nat → Int32) (w : Nat → Nat → Bool) (f : Nat → Nat → Nat) : (Nat → Nat → Int32) × (Nat → Nat → Bool) := q20b_17 ((q6 51 x w f).1) ((q6 51 x w f).2) f
theorem e20b {sc : pm_Sc} (d : Nat)  (x : Nat → Nat → Int32) (w : Nat → Nat → Bool) (f : Nat → Nat → Nat) : pm_ev (pm_call pm_Tf sc (d + 0)) sc 0 pm_c20 0 [(0, pm_r 48)] [] (pm_u x w f) = some (pm_h0 f (q20b x w f)) := (s20b_0 d  x w f).trans (((s20b_1 d  x w f).trans ((pm_call1_of (z6 (d + 0) 51 x w f (by decide))).trans (e20b_17 d  ((q6 51 x w f).1) ((q6 51 x w f).2) f))))
theorem z20b {sc : pm_Sc} (d : Nat) (x : Nat → Nat → Int32) (w : Nat → Nat → Bool) (f : Nat → Nat → Nat) : pm_call pm_Tf sc (d + 1) 20 [pm_r 48] (pm_u x w f) = some (pm_h0 f (q20b x w f)) := e20b d x w f
theorem s32a_4_0 {sc : pm_Sc} (d : Nat)  (x : Nat → Nat → Int32) (w : Nat → Nat → Bool) (f : Nat → Nat → Nat) : pm_ev (pm_call pm_Tf sc (d + 1)) sc 0 pm_c32 4 [(0, pm_r 29)] [] (pm_u x w f) = some (none, pm_u (pm_up (pm_up (pm_up (pm_up x 29 9 0) 29 10 1) 29 11 0) 29 12 0) (pm_up w 29 13 false) f) := by
  exact (pm_ev_iter [1] 3000 _ _ _ _).trans rfl
def q32a_4 (x : Nat → Nat → Int32) (w : Nat → Nat → Bool) (f : Nat → Nat → Nat) : (Nat → Nat → Int32) × (Nat → Nat → Bool) := (pm_up (pm_up (pm_up (pm_up x 29 9 0) 29 10 1) 29 11 0) 29 12 0, pm_up w 29 13 false)
theorem e32a_4 {sc : pm_Sc} (d : Nat)  (x : Nat → Nat → Int32) (w : Nat → Nat → Bool) (f : Nat → Nat → Nat) : pm_ev (pm_call pm_Tf sc (d + 1)) sc 0 pm_c32 4 [(0, pm_r 29)] [] (pm_u x w f) = some (pm_h0 f (q32a_4 x w f)) := (s32a_4_0 d  x w f).trans (rfl)
theorem s32a_0 {sc : pm_Sc} (d : Nat)  (x : Nat → Nat → Int32) (w : Nat → Nat → Bool) (f : Nat → Nat → Nat) : pm_ev (pm_call pm_Tf sc (d + 1)) sc 0 pm_c32 0 [(0, pm_r 29)] [] (pm_u x w f) = pm_ev (pm_call pm_Tf sc (d + 1)) sc 0 pm_c32 1 [(0, pm_r 29)] [pm_r 29] (pm_u x w f) := by
  exact (pm_ev_iter [1] 3000 _ _ _ _).trans rfl
theorem s32a_1 {sc : pm_Sc} (d : Nat)  (x : Nat → Nat → Int32) (w : Nat → Nat → Bool) (f : Nat → Nat → Nat) : pm_ev (pm_call pm_Tf sc (d + 1)) sc 0 pm_c32 1 [(0, pm_r 29)] [pm_r 29] (pm_u x w f) = pm_call1 (fun v u => pm_ev (pm_call pm_Tf sc (d + 1)) sc 0 pm_c32 4 [(0, pm_r 29)] (v.toList ++ []) u) none ((pm_call pm_Tf sc (d + 1)) 20 [pm_r 29] (pm_u x w f)) := by
  exact (pm_ev_step _ _ _ _).trans rfl
def q32a (x : Nat → Nat → Int32) (w : Nat → Nat → Bool) (f : Nat → Nat → Nat) : (Nat → Nat → Int32) × (Nat → Nat → Bool) := q32a_4 ((q20a x w f).1) ((q20a x w f).2) f
theorem e32a {sc : pm_Sc} (d : Nat)  (x : Nat → Nat → Int32) (w : Nat → Nat → Bool) (f : Nat → Nat → Nat) : pm_ev (pm_call pm_Tf sc (d + 1)) sc 0 pm_c32 0 [(0, pm_r 29)] [] (pm_u x w f) = some (pm_h0 f (q32a x w f)) := (s32a_0 d  x w f).trans (((s32a_1 d  x w f).trans ((pm_call1_of (z20a (d + 0) x w f)).trans (e32a_4 d  ((q20a x w f).1) ((q20a x w f).2) f))))
theorem z32a {sc : pm_Sc} (d : Nat) (x : Nat → Nat → Int32) (w : Nat → Nat → Bool) (f : Nat → Nat → Nat) : pm_call pm_Tf sc (d + 2) 32 [pm_r 29] (pm_u x w f) = some (pm_h0 f (q32a x w f)) := e32a d x w f
end
section
/-! The reference: what a step calls (printed by wip/gen/dec.py). -/
theorem s750_0 {c : Nat → List pm_V → pm_S → Option pm_Rs} {sc : pm_Sc}  (x : Nat → Nat → Int32) (w : Nat → Nat → Bool) (f : Nat → Nat → Nat) : pm_ev c sc 1 pm_c75 0 [(0, pm_r 67), (1, .inl 0)] [] (pm_u x w f) = (if (w 72 0) = true then (if (x 73 1) = 0 then some (some (.inl (-2)), pm_u x w f) else some (some (.inl ((x 68 0) - ((5 : Int32) * (x 73 1)))), pm_u x w f)) else some (some (.inl (-2)), pm_u x w f)) := by
  exact (pm_ev_iter [] 3000 _ _ _ _).trans rfl
def q750 (x : Nat → Nat → Int32) (w : Nat → Nat → Bool) (f : Nat → Nat → Nat) : Int32 := (if (w 72 0) = true then (if (x 73 1) = 0 then (-2) else (x 68 0) - ((5 : Int32) * (x 73 1))) else (-2))
theorem e750 {c : Nat → List pm_V → pm_S → Option pm_Rs} {sc : pm_Sc}  (x : Nat → Nat → Int32) (w : Nat → Nat → Bool) (f : Nat → Nat → Nat) : pm_ev c sc 1 pm_c75 0 [(0, pm_r 67), (1, .inl 0)] [] (pm_u x w f) = some (pm_g1 x w f (q750 x w f)) := (s750_0  x w f).trans (pm_iteG (g := (fun t => some (pm_g1 x w f t))) (fun _ => pm_iteG (g := (fun t => some (pm_g1 x w f t))) (fun _ => rfl) (fun _ => rfl)) (fun _ => rfl))
theorem z750 {sc : pm_Sc} (d : Nat) (x : Nat → Nat → Int32) (w : Nat → Nat → Bool) (f : Nat → Nat → Nat) : pm_call pm_Tf sc (d + 0) 75 [pm_r 67, .inl 0] (pm_u x w f) = some (pm_g1 x w f (q750 x w f)) := pm_call_0 (fun _ => e750 x w f) d
theorem s760_0 {sc : pm_Sc} (d : Nat)  (x : Nat → Nat → Int32) (w : Nat → Nat → Bool) (f : Nat → Nat → Nat) : pm_ev (pm_call pm_Tf sc (d + 0)) sc 2 pm_c76 0 [(0, pm_r 67), (1, .inl 0)] [] (pm_u x w f) = pm_ev (pm_call pm_Tf sc (d + 0)) sc 2 pm_c76 2 [(0, pm_r 67), (1, .inl 0)] [.inl 0, pm_r 67] (pm_u x w f) := by
  exact (pm_ev_iter [2] 3000 _ _ _ _).trans rfl
theorem s760_1 {sc : pm_Sc} (d : Nat)  (x : Nat → Nat → Int32) (w : Nat → Nat → Bool) (f : Nat → Nat → Nat) : pm_ev (pm_call pm_Tf sc (d + 0)) sc 2 pm_c76 2 [(0, pm_r 67), (1, .inl 0)] [.inl 0, pm_r 67] (pm_u x w f) = pm_call1 (fun v u => pm_ev (pm_call pm_Tf sc (d + 0)) sc 2 pm_c76 5 [(0, pm_r 67), (1, .inl 0)] (v.toList ++ []) u) none ((pm_call pm_Tf sc (d + 0)) 75 [pm_r 67, .inl 0] (pm_u x w f)) := by
  exact (pm_ev_step _ _ _ _).trans rfl
theorem s760_2 {sc : pm_Sc} (d : Nat)  (x : Nat → Nat → Int32) (w : Nat → Nat → Bool) (f : Nat → Nat → Nat) : pm_ev (pm_call pm_Tf sc (d + 0)) sc 2 pm_c76 5 [(0, pm_r 67), (1, .inl 0)] [.inl (q750 x w f)] (pm_u x w f) = (if (q750 x w f) = (-2) then some (some (pm_b false), pm_u x w f) else (if 25 < (q750 x w f) then some (some (pm_b false), pm_u x w f) else some (some (pm_b true), pm_u x w f))) := by
  exact (pm_ev_iter [2] 3000 _ _ _ _).trans rfl
def q760 (x : Nat → Nat → Int32) (w : Nat → Nat → Bool) (f : Nat → Nat → Nat) : Bool := (if (q750 x w f) = (-2) then false else (if 25 < (q750 x w f) then false else true))
theorem e760 {sc : pm_Sc} (d : Nat)  (x : Nat → Nat → Int32) (w : Nat → Nat → Bool) (f : Nat → Nat → Nat) : pm_ev (pm_call pm_Tf sc (d + 0)) sc 2 pm_c76 0 [(0, pm_r 67), (1, .inl 0)] [] (pm_u x w f) = some (pm_g2 x w f (q760 x w f)) := (s760_0 d  x w f).trans (((s760_1 d  x w f).trans ((pm_call1_of (z750 (d + 0) x w f)).trans ((s760_2 d  x w f).trans (pm_iteG (g := (fun t => some (pm_g2 x w f t))) (fun _ => rfl) (fun _ => pm_iteG (g := (fun t => some (pm_g2 x w f t))) (fun _ => rfl) (fun _ => rfl)))))))
theorem z760 {sc : pm_Sc} (d : Nat) (x : Nat → Nat → Int32) (w : Nat → Nat → Bool) (f : Nat → Nat → Nat) : pm_call pm_Tf sc (d + 1) 76 [pm_r 67, .inl 0] (pm_u x w f) = some (pm_g2 x w f (q760 x w f)) := e760 d x w f
theorem s770_0 {sc : pm_Sc} (d : Nat)  (x : Nat → Nat → Int32) (w : Nat → Nat → Bool) (f : Nat → Nat → Nat) : pm_ev (pm_call pm_Tf sc (d + 0)) sc 2 pm_c77 0 [(0, pm_r 67), (1, .inl 0)] [] (pm_u x w f) = pm_ev (pm_call pm_Tf sc (d + 0)) sc 2 pm_c77 2 [(0, pm_r 67), (1, .inl 0)] [.inl 0, pm_r 67] (pm_u x w f) := by
  exact (pm_ev_iter [2] 3000 _ _ _ _).trans rfl
theorem s770_1 {sc : pm_Sc} (d : Nat)  (x : Nat → Nat → Int32) (w : Nat → Nat → Bool) (f : Nat → Nat → Nat) : pm_ev (pm_call pm_Tf sc (d + 0)) sc 2 pm_c77 2 [(0, pm_r 67), (1, .inl 0)] [.inl 0, pm_r 67] (pm_u x w f) = pm_call1 (fun v u => pm_ev (pm_call pm_Tf sc (d + 0)) sc 2 pm_c77 5 [(0, pm_r 67), (1, .inl 0)] (v.toList ++ []) u) none ((pm_call pm_Tf sc (d + 0)) 75 [pm_r 67, .inl 0] (pm_u x w f)) := by
  exact (pm_ev_step _ _ _ _).trans rfl
theorem s770_2 {sc : pm_Sc} (d : Nat)  (x : Nat → Nat → Int32) (w : Nat → Nat → Bool) (f : Nat → Nat → Nat) : pm_ev (pm_call pm_Tf sc (d + 0)) sc 2 pm_c77 5 [(0, pm_r 67), (1, .inl 0)] [.inl (q750 x w f)] (pm_u x w f) = (if (q750 x w f) = (-2) then some (some (pm_b true), pm_u x w f) else (if (q750 x w f) ≤ 75 then some (some (pm_b false), pm_u x w f) else some (some (pm_b true), pm_u x w f))) := by
  exact (pm_ev_iter [2] 3000 _ _ _ _).trans rfl
def q770 (x : Nat → Nat → Int32) (w : Nat → Nat → Bool) (f : Nat → Nat → Nat) : Bool := (if (q750 x w f) = (-2) then true else (if (q750 x w f) ≤ 75 then false else true))
theorem e770 {sc : pm_Sc} (d : Nat)  (x : Nat → Nat → Int32) (w : Nat → Nat → Bool) (f : Nat → Nat → Nat) : pm_ev (pm_call pm_Tf sc (d + 0)) sc 2 pm_c77 0 [(0, pm_r 67), (1, .inl 0)] [] (pm_u x w f) = some (pm_g2 x w f (q770 x w f)) := (s770_0 d  x w f).trans (((s770_1 d  x w f).trans ((pm_call1_of (z750 (d + 0) x w f)).trans ((s770_2 d  x w f).trans (pm_iteG (g := (fun t => some (pm_g2 x w f t))) (fun _ => rfl) (fun _ => pm_iteG (g := (fun t => some (pm_g2 x w f t))) (fun _ => rfl) (fun _ => rfl)))))))
theorem z770 {sc : pm_Sc} (d : Nat) (x : Nat → Nat → Int32) (w : Nat → Nat → Bool) (f : Nat → Nat → Nat) : pm_call pm_Tf sc (d + 1) 77 [pm_r 67, .inl 0] (pm_u x w f) = some (pm_g2 x w f (q770 x w f)) := e770 d x w f
theorem s751_0 {c : Nat → List pm_V → pm_S → Option pm_Rs} {sc : pm_Sc}  (x : Nat → Nat → Int32) (w : Nat → Nat → Bool) (f : Nat → Nat → Nat) : pm_ev c sc 1 pm_c75 0 [(0, pm_r 67), (1, .inl 1)] [] (pm_u x w f) = (if (w 72 1) = true then (if (x 73 7) = 0 then some (some (.inl (-2)), pm_u x w f) else some (some (.inl ((x 68 1) - ((5 : Int32) * (x 73 7)))), pm_u x w f)) else some (some (.inl (-2)), pm_u x w f)) := by
  exact (pm_ev_iter [] 3000 _ _ _ _).trans rfl
def q751 (x : Nat → Nat → Int32) (w : Nat → Nat → Bool) (f : Nat → Nat → Nat) : Int32 := (if (w 72 1) = true then (if (x 73 7) = 0 then (-2) else (x 68 1) - ((5 : Int32) * (x 73 7))) else (-2))
theorem e751 {c : Nat → List pm_V → pm_S → Option pm_Rs} {sc : pm_Sc}  (x : Nat → Nat → Int32) (w : Nat → Nat → Bool) (f : Nat → Nat → Nat) : pm_ev c sc 1 pm_c75 0 [(0, pm_r 67), (1, .inl 1)] [] (pm_u x w f) = some (pm_g1 x w f (q751 x w f)) := (s751_0  x w f).trans (pm_iteG (g := (fun t => some (pm_g1 x w f t))) (fun _ => pm_iteG (g := (fun t => some (pm_g1 x w f t))) (fun _ => rfl) (fun _ => rfl)) (fun _ => rfl))
theorem z751 {sc : pm_Sc} (d : Nat) (x : Nat → Nat → Int32) (w : Nat → Nat → Bool) (f : Nat → Nat → Nat) : pm_call pm_Tf sc (d + 0) 75 [pm_r 67, .inl 1] (pm_u x w f) = some (pm_g1 x w f (q751 x w f)) := pm_call_0 (fun _ => e751 x w f) d
theorem s761_0 {sc : pm_Sc} (d : Nat)  (x : Nat → Nat → Int32) (w : Nat → Nat → Bool) (f : Nat → Nat → Nat) : pm_ev (pm_call pm_Tf sc (d + 0)) sc 2 pm_c76 0 [(0, pm_r 67), (1, .inl 1)] [] (pm_u x w f) = pm_ev (pm_call pm_Tf sc (d + 0)) sc 2 pm_c76 2 [(0, pm_r 67), (1, .inl 1)] [.inl 1, pm_r 67] (pm_u x w f) := by
  exact (pm_ev_iter [2] 3000 _ _ _ _).trans rfl
theorem s761_1 {sc : pm_Sc} (d : Nat)  (x : Nat → Nat → Int32) (w : Nat → Nat → Bool) (f : Nat → Nat → Nat) : pm_ev (pm_call pm_Tf sc (d + 0)) sc 2 pm_c76 2 [(0, pm_r 67), (1, .inl 1)] [.inl 1, pm_r 67] (pm_u x w f) = pm_call1 (fun v u => pm_ev (pm_call pm_Tf sc (d + 0)) sc 2 pm_c76 5 [(0, pm_r 67), (1, .inl 1)] (v.toList ++ []) u) none ((pm_call pm_Tf sc (d + 0)) 75 [pm_r 67, .inl 1] (pm_u x w f)) := by
  exact (pm_ev_step _ _ _ _).trans rfl
theorem s761_2 {sc : pm_Sc} (d : Nat)  (x : Nat → Nat → Int32) (w : Nat → Nat → Bool) (f : Nat → Nat → Nat) : pm_ev (pm_call pm_Tf sc (d + 0)) sc 2 pm_c76 5 [(0, pm_r 67), (1, .inl 1)] [.inl (q751 x w f)] (pm_u x w f) = (if (q751 x w f) = (-2) then some (some (pm_b false), pm_u x w f) else (if 25 < (q751 x w f) then some (some (pm_b false), pm_u x w f) else some (some (pm_b true), pm_u x w f))) := by
  exact (pm_ev_iter [2] 3000 _ _ _ _).trans rfl
def q761 (x : Nat → Nat → Int32) (w : Nat → Nat → Bool) (f : Nat → Nat → Nat) : Bool := (if (q751 x w f) = (-2) then false else (if 25 < (q751 x w f) then false else true))
theorem e761 {sc : pm_Sc} (d : Nat)  (x : Nat → Nat → Int32) (w : Nat → Nat → Bool) (f : Nat → Nat → Nat) : pm_ev (pm_call pm_Tf sc (d + 0)) sc 2 pm_c76 0 [(0, pm_r 67), (1, .inl 1)] [] (pm_u x w f) = some (pm_g2 x w f (q761 x w f)) := (s761_0 d  x w f).trans (((s761_1 d  x w f).trans ((pm_call1_of (z751 (d + 0) x w f)).trans ((s761_2 d  x w f).trans (pm_iteG (g := (fun t => some (pm_g2 x w f t))) (fun _ => rfl) (fun _ => pm_iteG (g := (fun t => some (pm_g2 x w f t))) (fun _ => rfl) (fun _ => rfl)))))))
theorem z761 {sc : pm_Sc} (d : Nat) (x : Nat → Nat → Int32) (w : Nat → Nat → Bool) (f : Nat → Nat → Nat) : pm_call pm_Tf sc (d + 1) 76 [pm_r 67, .inl 1] (pm_u x w f) = some (pm_g2 x w f (q761 x w f)) := e761 d x w f
theorem s771_0 {sc : pm_Sc} (d : Nat)  (x : Nat → Nat → Int32) (w : Nat → Nat → Bool) (f : Nat → Nat → Nat) : pm_ev (pm_call pm_Tf sc (d + 0)) sc 2 pm_c77 0 [(0, pm_r 67), (1, .inl 1)] [] (pm_u x w f) = pm_ev (pm_call pm_Tf sc (d + 0)) sc 2 pm_c77 2 [(0, pm_r 67), (1, .inl 1)] [.inl 1, pm_r 67] (pm_u x w f) := by
  exact (pm_ev_iter [2] 3000 _ _ _ _).trans rfl
theorem s771_1 {sc : pm_Sc} (d : Nat)  (x : Nat → Nat → Int32) (w : Nat → Nat → Bool) (f : Nat → Nat → Nat) : pm_ev (pm_call pm_Tf sc (d + 0)) sc 2 pm_c77 2 [(0, pm_r 67), (1, .inl 1)] [.inl 1, pm_r 67] (pm_u x w f) = pm_call1 (fun v u => pm_ev (pm_call pm_Tf sc (d + 0)) sc 2 pm_c77 5 [(0, pm_r 67), (1, .inl 1)] (v.toList ++ []) u) none ((pm_call pm_Tf sc (d + 0)) 75 [pm_r 67, .inl 1] (pm_u x w f)) := by
  exact (pm_ev_step _ _ _ _).trans rfl
theorem s771_2 {sc : pm_Sc} (d : Nat)  (x : Nat → Nat → Int32) (w : Nat → Nat → Bool) (f : Nat → Nat → Nat) : pm_ev (pm_call pm_Tf sc (d + 0)) sc 2 pm_c77 5 [(0, pm_r 67), (1, .inl 1)] [.inl (q751 x w f)] (pm_u x w f) = (if (q751 x w f) = (-2) then some (some (pm_b true), pm_u x w f) else (if (q751 x w f) ≤ 75 then some (some (pm_b false), pm_u x w f) else some (some (pm_b true), pm_u x w f))) := by
  exact (pm_ev_iter [2] 3000 _ _ _ _).trans rfl
def q771 (x : Nat → Nat → Int32) (w : Nat → Nat → Bool) (f : Nat → Nat → Nat) : Bool := (if (q751 x w f) = (-2) then true else (if (q751 x w f) ≤ 75 then false else true))
theorem e771 {sc : pm_Sc} (d : Nat)  (x : Nat → Nat → Int32) (w : Nat → Nat → Bool) (f : Nat → Nat → Nat) : pm_ev (pm_call pm_Tf sc (d + 0)) sc 2 pm_c77 0 [(0, pm_r 67), (1, .inl 1)] [] (pm_u x w f) = some (pm_g2 x w f (q771 x w f)) := (s771_0 d  x w f).trans (((s771_1 d  x w f).trans ((pm_call1_of (z751 (d + 0) x w f)).trans ((s771_2 d  x w f).trans (pm_iteG (g := (fun t => some (pm_g2 x w f t))) (fun _ => rfl) (fun _ => pm_iteG (g := (fun t => some (pm_g2 x w f t))) (fun _ => rfl) (fun _ => rfl)))))))
theorem z771 {sc : pm_Sc} (d : Nat) (x : Nat → Nat → Int32) (w : Nat → Nat → Bool) (f : Nat → Nat → Nat) : pm_call pm_Tf sc (d + 1) 77 [pm_r 67, .inl 1] (pm_u x w f) = some (pm_g2 x w f (q771 x w f)) := e771 d x w f
theorem s78_0 {c : Nat → List pm_V → pm_S → Option pm_Rs} {sc : pm_Sc}  (x : Nat → Nat → Int32) (w : Nat → Nat → Bool) (f : Nat → Nat → Nat) : pm_ev c sc 2 pm_c78 0 [(0, pm_r 67)] [] (pm_u x w f) = (if (x 67 20) < 20 then some (some (pm_b false), pm_u x w f) else (if ((x 67 17) + (x 67 19)) < (-250) then some (some (pm_b false), pm_u x w f) else (if 250 < ((x 67 17) + (x 67 19)) then some (some (pm_b false), pm_u x w f) else some (some (pm_b true), pm_u x w f)))) := by
  exact (pm_ev_iter [] 3000 _ _ _ _).trans rfl
def q78 (x : Nat → Nat → Int32) (w : Nat → Nat → Bool) (f : Nat → Nat → Nat) : Bool := (if (x 67 20) < 20 then false else (if ((x 67 17) + (x 67 19)) < (-250) then false else (if 250 < ((x 67 17) + (x 67 19)) then false else true)))
theorem e78 {c : Nat → List pm_V → pm_S → Option pm_Rs} {sc : pm_Sc}  (x : Nat → Nat → Int32) (w : Nat → Nat → Bool) (f : Nat → Nat → Nat) : pm_ev c sc 2 pm_c78 0 [(0, pm_r 67)] [] (pm_u x w f) = some (pm_g2 x w f (q78 x w f)) := (s78_0  x w f).trans (pm_iteG (g := (fun t => some (pm_g2 x w f t))) (fun _ => rfl) (fun _ => pm_iteG (g := (fun t => some (pm_g2 x w f t))) (fun _ => rfl) (fun _ => pm_iteG (g := (fun t => some (pm_g2 x w f t))) (fun _ => rfl) (fun _ => rfl))))
theorem z78 {sc : pm_Sc} (d : Nat) (x : Nat → Nat → Int32) (w : Nat → Nat → Bool) (f : Nat → Nat → Nat) : pm_call pm_Tf sc (d + 0) 78 [pm_r 67] (pm_u x w f) = some (pm_g2 x w f (q78 x w f)) := pm_call_0 (fun _ => e78 x w f) d
theorem s79_0 {c : Nat → List pm_V → pm_S → Option pm_Rs} {sc : pm_Sc} (k : Nat) (x : Nat → Nat → Int32) (w : Nat → Nat → Bool) (f : Nat → Nat → Nat) (hk : k < 16) : pm_ev c sc 2 pm_c79 0 [(0, pm_r 67), (1, .inl (Int32.ofNat k))] [] (pm_u x w f) = (if (x 76 k) = 0 then (if (w 79 k) = true then some (some (pm_b false), pm_u x w f) else (if (w 78 k) = true then some (some (pm_b false), pm_u x w f) else some (some (pm_b true), pm_u x w f))) else some (some (pm_b false), pm_u x w f)) := by
  (rcases pm_lt16 hk with rfl | rfl | rfl | rfl | rfl | rfl | rfl | rfl | rfl | rfl | rfl | rfl | rfl | rfl | rfl | rfl) <;> exact (pm_ev_iter [] 3000 _ _ _ _).trans rfl
def q79 (k : Nat) (x : Nat → Nat → Int32) (w : Nat → Nat → Bool) (f : Nat → Nat → Nat) : Bool := (if (x 76 k) = 0 then (if (w 79 k) = true then false else (if (w 78 k) = true then false else true)) else false)
theorem e79 {c : Nat → List pm_V → pm_S → Option pm_Rs} {sc : pm_Sc} (k : Nat) (x : Nat → Nat → Int32) (w : Nat → Nat → Bool) (f : Nat → Nat → Nat) (hk : k < 16) : pm_ev c sc 2 pm_c79 0 [(0, pm_r 67), (1, .inl (Int32.ofNat k))] [] (pm_u x w f) = some (pm_g2 x w f (q79 k x w f)) := (s79_0 k x w f hk).trans (pm_iteG (g := (fun t => some (pm_g2 x w f t))) (fun _ => pm_iteG (g := (fun t => some (pm_g2 x w f t))) (fun _ => rfl) (fun _ => pm_iteG (g := (fun t => some (pm_g2 x w f t))) (fun _ => rfl) (fun _ => rfl))) (fun _ => rfl))
theorem z79 {sc : pm_Sc} (d : Nat) (k : Nat) (x : Nat → Nat → Int32) (w : Nat → Nat → Bool) (f : Nat → Nat → Nat) (hk : k < 16) : pm_call pm_Tf sc (d + 0) 79 [pm_r 67, .inl (Int32.ofNat k)] (pm_u x w f) = some (pm_g2 x w f (q79 k x w f)) := pm_call_0 (fun _ => e79 k x w f hk) d
theorem s80_0 {c : Nat → List pm_V → pm_S → Option pm_Rs} {sc : pm_Sc} (n : Nat) (b : Bool) (x : Nat → Nat → Int32) (w : Nat → Nat → Bool) (f : Nat → Nat → Nat) (hc : n < 32) : pm_ev c sc 2 pm_c80 0 [(0, pm_r 67), (1, .inl (Int32.ofNat n)), (2, pm_b b)] [] (pm_u x w f) = (if (x 84 n) = 1 then some (some (pm_b true), pm_u x w f) else (if (x 84 n) = 0 then (if b = true then some (some (pm_b true), pm_u x w f) else some (some (pm_b false), pm_u x w f)) else some (some (pm_b false), pm_u x w f))) := by
  (rcases pm_lt32 hc with rfl | rfl | rfl | rfl | rfl | rfl | rfl | rfl | rfl | rfl | rfl | rfl | rfl | rfl | rfl | rfl | rfl | rfl | rfl | rfl | rfl | rfl | rfl | rfl | rfl | rfl | rfl | rfl | rfl | rfl | rfl | rfl) <;> exact (pm_ev_iter [] 3000 _ _ _ _).trans rfl
def q80 (n : Nat) (b : Bool) (x : Nat → Nat → Int32) (w : Nat → Nat → Bool) (f : Nat → Nat → Nat) : Bool := (if (x 84 n) = 1 then true else (if (x 84 n) = 0 then (if b = true then true else false) else false))
theorem e80 {c : Nat → List pm_V → pm_S → Option pm_Rs} {sc : pm_Sc} (n : Nat) (b : Bool) (x : Nat → Nat → Int32) (w : Nat → Nat → Bool) (f : Nat → Nat → Nat) (hc : n < 32) : pm_ev c sc 2 pm_c80 0 [(0, pm_r 67), (1, .inl (Int32.ofNat n)), (2, pm_b b)] [] (pm_u x w f) = some (pm_g2 x w f (q80 n b x w f)) := (s80_0 n b x w f hc).trans (pm_iteG (g := (fun t => some (pm_g2 x w f t))) (fun _ => rfl) (fun _ => pm_iteG (g := (fun t => some (pm_g2 x w f t))) (fun _ => pm_iteG (g := (fun t => some (pm_g2 x w f t))) (fun _ => rfl) (fun _ => rfl)) (fun _ => rfl)))
theorem z80 {sc : pm_Sc} (d : Nat) (n : Nat) (b : Bool) (x : Nat → Nat → Int32) (w : Nat → Nat → Bool) (f : Nat → Nat → Nat) (hc : n < 32) : pm_call pm_Tf sc (d + 0) 80 [pm_r 67, .inl (Int32.ofNat n), pm_b b] (pm_u x w f) = some (pm_g2 x w f (q80 n b x w f)) := pm_call_0 (fun _ => e80 n b x w f hc) d
theorem s81_0 {sc : pm_Sc} (d : Nat) (k : Nat) (x : Nat → Nat → Int32) (w : Nat → Nat → Bool) (f : Nat → Nat → Nat) (hk : k < 16) : pm_ev (pm_call pm_Tf sc (d + 0)) sc 2 pm_c81 0 [(0, pm_r 67), (1, .inl (Int32.ofNat k))] [] (pm_u x w f) = pm_ev (pm_call pm_Tf sc (d + 0)) sc 2 pm_c81 6 [(0, pm_r 67), (1, .inl (Int32.ofNat k))] [.inl (Int32.ofNat k), pm_r 67, .inl (Int32.ofNat (2 * k)), pm_r 67] (pm_u x w f) := by
  (rcases pm_lt16 hk with rfl | rfl | rfl | rfl | rfl | rfl | rfl | rfl | rfl | rfl | rfl | rfl | rfl | rfl | rfl | rfl) <;> exact (pm_ev_iter [6, 9, 23, 26] 3000 _ _ _ _).trans rfl
theorem s81_1 {sc : pm_Sc} (d : Nat) (k : Nat) (x : Nat → Nat → Int32) (w : Nat → Nat → Bool) (f : Nat → Nat → Nat) (hk : k < 16) : pm_ev (pm_call pm_Tf sc (d + 0)) sc 2 pm_c81 6 [(0, pm_r 67), (1, .inl (Int32.ofNat k))] [.inl (Int32.ofNat k), pm_r 67, .inl (Int32.ofNat (2 * k)), pm_r 67] (pm_u x w f) = pm_call1 (fun v u => pm_ev (pm_call pm_Tf sc (d + 0)) sc 2 pm_c81 9 [(0, pm_r 67), (1, .inl (Int32.ofNat k))] (v.toList ++ [.inl (Int32.ofNat (2 * k)), pm_r 67]) u) none ((pm_call pm_Tf sc (d + 0)) 79 [pm_r 67, .inl (Int32.ofNat k)] (pm_u x w f)) := by
  (rcases pm_lt16 hk with rfl | rfl | rfl | rfl | rfl | rfl | rfl | rfl | rfl | rfl | rfl | rfl | rfl | rfl | rfl | rfl) <;> exact (pm_ev_step _ _ _ _).trans rfl
theorem s81_2 {sc : pm_Sc} (d : Nat) (k : Nat) (x : Nat → Nat → Int32) (w : Nat → Nat → Bool) (f : Nat → Nat → Nat) (hk : k < 16) : pm_ev (pm_call pm_Tf sc (d + 0)) sc 2 pm_c81 9 [(0, pm_r 67), (1, .inl (Int32.ofNat k))] [pm_b (q79 k x w f), .inl (Int32.ofNat (2 * k)), pm_r 67] (pm_u x w f) = pm_call1 (fun v u => pm_ev (pm_call pm_Tf sc (d + 0)) sc 2 pm_c81 12 [(0, pm_r 67), (1, .inl (Int32.ofNat k))] (v.toList ++ []) u) none ((pm_call pm_Tf sc (d + 0)) 80 [pm_r 67, .inl (Int32.ofNat (2 * k)), pm_b (q79 k x w f)] (pm_u x w f)) := by
  (rcases pm_lt16 hk with rfl | rfl | rfl | rfl | rfl | rfl | rfl | rfl | rfl | rfl | rfl | rfl | rfl | rfl | rfl | rfl) <;> exact (pm_ev_step _ _ _ _).trans rfl
theorem s81_3 {sc : pm_Sc} (d : Nat) (k : Nat) (x : Nat → Nat → Int32) (w : Nat → Nat → Bool) (f : Nat → Nat → Nat) (hk : k < 16) : pm_ev (pm_call pm_Tf sc (d + 0)) sc 2 pm_c81 12 [(0, pm_r 67), (1, .inl (Int32.ofNat k))] [pm_b (q80 (2 * k) (q79 k x w f) x w f)] (pm_u x w f) = (if (q80 (2 * k) (q79 k x w f) x w f) = true then pm_ev (pm_call pm_Tf sc (d + 0)) sc 2 pm_c81 23 [(0, pm_r 67), (1, .inl (Int32.ofNat k))] [.inl (Int32.ofNat k), pm_r 67, .inl (Int32.ofNat ((2 * k) + 1)), pm_r 67] (pm_u x w f) else some (some (pm_b false), pm_u x w f)) := by
  (rcases pm_lt16 hk with rfl | rfl | rfl | rfl | rfl | rfl | rfl | rfl | rfl | rfl | rfl | rfl | rfl | rfl | rfl | rfl) <;> exact (pm_ev_iter [6, 9, 23, 26] 3000 _ _ _ _).trans rfl
theorem s81_4 {sc : pm_Sc} (d : Nat) (k : Nat) (x : Nat → Nat → Int32) (w : Nat → Nat → Bool) (f : Nat → Nat → Nat) (hk : k < 16) : pm_ev (pm_call pm_Tf sc (d + 0)) sc 2 pm_c81 23 [(0, pm_r 67), (1, .inl (Int32.ofNat k))] [.inl (Int32.ofNat k), pm_r 67, .inl (Int32.ofNat ((2 * k) + 1)), pm_r 67] (pm_u x w f) = pm_call1 (fun v u => pm_ev (pm_call pm_Tf sc (d + 0)) sc 2 pm_c81 26 [(0, pm_r 67), (1, .inl (Int32.ofNat k))] (v.toList ++ [.inl (Int32.ofNat ((2 * k) + 1)), pm_r 67]) u) none ((pm_call pm_Tf sc (d + 0)) 79 [pm_r 67, .inl (Int32.ofNat k)] (pm_u x w f)) := by
  (rcases pm_lt16 hk with rfl | rfl | rfl | rfl | rfl | rfl | rfl | rfl | rfl | rfl | rfl | rfl | rfl | rfl | rfl | rfl) <;> exact (pm_ev_step _ _ _ _).trans rfl
theorem s81_5 {sc : pm_Sc} (d : Nat) (k : Nat) (x : Nat → Nat → Int32) (w : Nat → Nat → Bool) (f : Nat → Nat → Nat) (hk : k < 16) : pm_ev (pm_call pm_Tf sc (d + 0)) sc 2 pm_c81 26 [(0, pm_r 67), (1, .inl (Int32.ofNat k))] [pm_b (q79 k x w f), .inl (Int32.ofNat ((2 * k) + 1)), pm_r 67] (pm_u x w f) = pm_call1 (fun v u => pm_ev (pm_call pm_Tf sc (d + 0)) sc 2 pm_c81 29 [(0, pm_r 67), (1, .inl (Int32.ofNat k))] (v.toList ++ []) u) none ((pm_call pm_Tf sc (d + 0)) 80 [pm_r 67, .inl (Int32.ofNat ((2 * k) + 1)), pm_b (q79 k x w f)] (pm_u x w f)) := by
  (rcases pm_lt16 hk with rfl | rfl | rfl | rfl | rfl | rfl | rfl | rfl | rfl | rfl | rfl | rfl | rfl | rfl | rfl | rfl) <;> exact (pm_ev_step _ _ _ _).trans rfl
theorem s81_6 {sc : pm_Sc} (d : Nat) (k : Nat) (x : Nat → Nat → Int32) (w : Nat → Nat → Bool) (f : Nat → Nat → Nat) (hk : k < 16) : pm_ev (pm_call pm_Tf sc (d + 0)) sc 2 pm_c81 29 [(0, pm_r 67), (1, .inl (Int32.ofNat k))] [pm_b (q80 ((2 * k) + 1) (q79 k x w f) x w f)] (pm_u x w f) = (if (q80 ((2 * k) + 1) (q79 k x w f) x w f) = true then some (some (pm_b true), pm_u x w f) else some (some (pm_b false), pm_u x w f)) := by
  (rcases pm_lt16 hk with rfl | rfl | rfl | rfl | rfl | rfl | rfl | rfl | rfl | rfl | rfl | rfl | rfl | rfl | rfl | rfl) <;> exact (pm_ev_iter [6, 9, 23, 26] 3000 _ _ _ _).trans rfl
def q81 (k : Nat) (x : Nat → Nat → Int32) (w : Nat → Nat → Bool) (f : Nat → Nat → Nat) : Bool := (if (q80 (2 * k) (q79 k x w f) x w f) = true then (if (q80 ((2 * k) + 1) (q79 k x w f) x w f) = true then true else false) else false)
theorem e81 {sc : pm_Sc} (d : Nat) (k : Nat) (x : Nat → Nat → Int32) (w : Nat → Nat → Bool) (f : Nat → Nat → Nat) (hk : k < 16) : pm_ev (pm_call pm_Tf sc (d + 0)) sc 2 pm_c81 0 [(0, pm_r 67), (1, .inl (Int32.ofNat k))] [] (pm_u x w f) = some (pm_g2 x w f (q81 k x w f)) := (s81_0 d k x w f hk).trans (((s81_1 d k x w f hk).trans ((pm_call1_of (z79 (d + 0) k x w f hk)).trans (((s81_2 d k x w f hk).trans ((pm_call1_of (z80 (d + 0) (2 * k) (q79 k x w f) x w f (by omega))).trans ((s81_3 d k x w f hk).trans (pm_iteG (g := (fun t => some (pm_g2 x w f t))) (fun _ => ((s81_4 d k x w f hk).trans ((pm_call1_of (z79 (d + 0) k x w f hk)).trans (((s81_5 d k x w f hk).trans ((pm_call1_of (z80 (d + 0) ((2 * k) + 1) (q79 k x w f) x w f (by omega))).trans ((s81_6 d k x w f hk).trans (pm_iteG (g := (fun t => some (pm_g2 x w f t))) (fun _ => rfl) (fun _ => rfl))))))))) (fun _ => rfl)))))))))
theorem z81 {sc : pm_Sc} (d : Nat) (k : Nat) (x : Nat → Nat → Int32) (w : Nat → Nat → Bool) (f : Nat → Nat → Nat) (hk : k < 16) : pm_call pm_Tf sc (d + 1) 81 [pm_r 67, .inl (Int32.ofNat k)] (pm_u x w f) = some (pm_g2 x w f (q81 k x w f)) := e81 d k x w f hk
theorem s820_32_7_0 {sc : pm_Sc} (d : Nat) (v0 : Int32) (v1 : Int32) (v2 : Int32) (x : Nat → Nat → Int32) (w : Nat → Nat → Bool) (f : Nat → Nat → Nat) : pm_ev (pm_call pm_Tf sc (d + 1)) sc 1 pm_c82 32 [(3, .inl 7), (2, .inl v0), (0, pm_r 67), (1, .inl 0)] [.inl v1, .inl v2] (pm_u x w f) = some (some (.inl (v2 + v1)), pm_u x w f) := by
  exact (pm_ev_iter [21, 32] 3000 _ _ _ _).trans rfl
def q820_32_7 (v0 : Int32) (v1 : Int32) (v2 : Int32) (x : Nat → Nat → Int32) (w : Nat → Nat → Bool) (f : Nat → Nat → Nat) : Int32 := v2 + v1
theorem e820_32_7 {sc : pm_Sc} (d : Nat) (v0 : Int32) (v1 : Int32) (v2 : Int32) (x : Nat → Nat → Int32) (w : Nat → Nat → Bool) (f : Nat → Nat → Nat) : pm_ev (pm_call pm_Tf sc (d + 1)) sc 1 pm_c82 32 [(3, .inl 7), (2, .inl v0), (0, pm_r 67), (1, .inl 0)] [.inl v1, .inl v2] (pm_u x w f) = some (pm_g1 x w f (q820_32_7 v0 v1 v2 x w f)) := (s820_32_7_0 d v0 v1 v2 x w f).trans (rfl)
theorem s820_32_6_0 {sc : pm_Sc} (d : Nat) (v0 : Int32) (v1 : Int32) (v2 : Int32) (x : Nat → Nat → Int32) (w : Nat → Nat → Bool) (f : Nat → Nat → Nat) : pm_ev (pm_call pm_Tf sc (d + 1)) sc 1 pm_c82 32 [(3, .inl 6), (2, .inl v0), (0, pm_r 67), (1, .inl 0)] [.inl v1, .inl v2] (pm_u x w f) = pm_ev (pm_call pm_Tf sc (d + 1)) sc 1 pm_c82 21 [(3, .inl 7), (2, .inl (v2 + v1)), (0, pm_r 67), (1, .inl 0)] [.inl 7, pm_r 67, .inl (v2 + v1)] (pm_u x w f) := by
  exact (pm_ev_iter [21, 32] 3000 _ _ _ _).trans rfl
theorem s820_32_6_1 {sc : pm_Sc} (d : Nat) (v0 : Int32) (v1 : Int32) (v2 : Int32) (x : Nat → Nat → Int32) (w : Nat → Nat → Bool) (f : Nat → Nat → Nat) : pm_ev (pm_call pm_Tf sc (d + 1)) sc 1 pm_c82 21 [(3, .inl 7), (2, .inl (v2 + v1)), (0, pm_r 67), (1, .inl 0)] [.inl 7, pm_r 67, .inl (v2 + v1)] (pm_u x w f) = pm_call1 (fun v u => pm_ev (pm_call pm_Tf sc (d + 1)) sc 1 pm_c82 24 [(3, .inl 7), (2, .inl (v2 + v1)), (0, pm_r 67), (1, .inl 0)] (v.toList ++ [.inl (v2 + v1)]) u) none ((pm_call pm_Tf sc (d + 1)) 81 [pm_r 67, .inl 7] (pm_u x w f)) := by
  exact (pm_ev_step _ _ _ _).trans rfl
theorem s820_32_6_2 {sc : pm_Sc} (d : Nat) (v0 : Int32) (v1 : Int32) (v2 : Int32) (x : Nat → Nat → Int32) (w : Nat → Nat → Bool) (f : Nat → Nat → Nat) : pm_ev (pm_call pm_Tf sc (d + 1)) sc 1 pm_c82 24 [(3, .inl 7), (2, .inl (v2 + v1)), (0, pm_r 67), (1, .inl 0)] [pm_b (q81 7 x w f), .inl (v2 + v1)] (pm_u x w f) = (if (q81 7 x w f) = true then pm_ev (pm_call pm_Tf sc (d + 1)) sc 1 pm_c82 32 [(3, .inl 7), (2, .inl (v2 + v1)), (0, pm_r 67), (1, .inl 0)] [.inl 1, .inl (v2 + v1)] (pm_u x w f) else pm_ev (pm_call pm_Tf sc (d + 1)) sc 1 pm_c82 32 [(3, .inl 7), (2, .inl (v2 + v1)), (0, pm_r 67), (1, .inl 0)] [.inl 0, .inl (v2 + v1)] (pm_u x w f)) := by
  exact (pm_ev_iter [21, 32] 3000 _ _ _ _).trans rfl
def q820_32_6 (v0 : Int32) (v1 : Int32) (v2 : Int32) (x : Nat → Nat → Int32) (w : Nat → Nat → Bool) (f : Nat → Nat → Nat) : Int32 := (if (q81 7 x w f) = true then q820_32_7 (v2 + v1) 1 (v2 + v1) x w f else q820_32_7 (v2 + v1) 0 (v2 + v1) x w f)
theorem e820_32_6 {sc : pm_Sc} (d : Nat) (v0 : Int32) (v1 : Int32) (v2 : Int32) (x : Nat → Nat → Int32) (w : Nat → Nat → Bool) (f : Nat → Nat → Nat) : pm_ev (pm_call pm_Tf sc (d + 1)) sc 1 pm_c82 32 [(3, .inl 6), (2, .inl v0), (0, pm_r 67), (1, .inl 0)] [.inl v1, .inl v2] (pm_u x w f) = some (pm_g1 x w f (q820_32_6 v0 v1 v2 x w f)) := (s820_32_6_0 d v0 v1 v2 x w f).trans (((s820_32_6_1 d v0 v1 v2 x w f).trans ((pm_call1_of (z81 (d + 0) 7 x w f (by decide))).trans ((s820_32_6_2 d v0 v1 v2 x w f).trans (pm_iteG (g := (fun t => some (pm_g1 x w f t))) (fun _ => e820_32_7 d  (v2 + v1) 1 (v2 + v1) x w f) (fun _ => e820_32_7 d  (v2 + v1) 0 (v2 + v1) x w f))))))
theorem s820_32_5_0 {sc : pm_Sc} (d : Nat) (v0 : Int32) (v1 : Int32) (v2 : Int32) (x : Nat → Nat → Int32) (w : Nat → Nat → Bool) (f : Nat → Nat → Nat) : pm_ev (pm_call pm_Tf sc (d + 1)) sc 1 pm_c82 32 [(3, .inl 5), (2, .inl v0), (0, pm_r 67), (1, .inl 0)] [.inl v1, .inl v2] (pm_u x w f) = pm_ev (pm_call pm_Tf sc (d + 1)) sc 1 pm_c82 21 [(3, .inl 6), (2, .inl (v2 + v1)), (0, pm_r 67), (1, .inl 0)] [.inl 6, pm_r 67, .inl (v2 + v1)] (pm_u x w f) := by
  exact (pm_ev_iter [21, 32] 3000 _ _ _ _).trans rfl
theorem s820_32_5_1 {sc : pm_Sc} (d : Nat) (v0 : Int32) (v1 : Int32) (v2 : Int32) (x : Nat → Nat → Int32) (w : Nat → Nat → Bool) (f : Nat → Nat → Nat) : pm_ev (pm_call pm_Tf sc (d + 1)) sc 1 pm_c82 21 [(3, .inl 6), (2, .inl (v2 + v1)), (0, pm_r 67), (1, .inl 0)] [.inl 6, pm_r 67, .inl (v2 + v1)] (pm_u x w f) = pm_call1 (fun v u => pm_ev (pm_call pm_Tf sc (d + 1)) sc 1 pm_c82 24 [(3, .inl 6), (2, .inl (v2 + v1)), (0, pm_r 67), (1, .inl 0)] (v.toList ++ [.inl (v2 + v1)]) u) none ((pm_call pm_Tf sc (d + 1)) 81 [pm_r 67, .inl 6] (pm_u x w f)) := by
  exact (pm_ev_step _ _ _ _).trans rfl
theorem s820_32_5_2 {sc : pm_Sc} (d : Nat) (v0 : Int32) (v1 : Int32) (v2 : Int32) (x : Nat → Nat → Int32) (w : Nat → Nat → Bool) (f : Nat → Nat → Nat) : pm_ev (pm_call pm_Tf sc (d + 1)) sc 1 pm_c82 24 [(3, .inl 6), (2, .inl (v2 + v1)), (0, pm_r 67), (1, .inl 0)] [pm_b (q81 6 x w f), .inl (v2 + v1)] (pm_u x w f) = (if (q81 6 x w f) = true then pm_ev (pm_call pm_Tf sc (d + 1)) sc 1 pm_c82 32 [(3, .inl 6), (2, .inl (v2 + v1)), (0, pm_r 67), (1, .inl 0)] [.inl 1, .inl (v2 + v1)] (pm_u x w f) else pm_ev (pm_call pm_Tf sc (d + 1)) sc 1 pm_c82 32 [(3, .inl 6), (2, .inl (v2 + v1)), (0, pm_r 67), (1, .inl 0)] [.inl 0, .inl (v2 + v1)] (pm_u x w f)) := by
  exact (pm_ev_iter [21, 32] 3000 _ _ _ _).trans rfl
def q820_32_5 (v0 : Int32) (v1 : Int32) (v2 : Int32) (x : Nat → Nat → Int32) (w : Nat → Nat → Bool) (f : Nat → Nat → Nat) : Int32 := (if (q81 6 x w f) = true then q820_32_6 (v2 + v1) 1 (v2 + v1) x w f else q820_32_6 (v2 + v1) 0 (v2 + v1) x w f)
theorem e820_32_5 {sc : pm_Sc} (d : Nat) (v0 : Int32) (v1 : Int32) (v2 : Int32) (x : Nat → Nat → Int32) (w : Nat → Nat → Bool) (f : Nat → Nat → Nat) : pm_ev (pm_call pm_Tf sc (d + 1)) sc 1 pm_c82 32 [(3, .inl 5), (2, .inl v0), (0, pm_r 67), (1, .inl 0)] [.inl v1, .inl v2] (pm_u x w f) = some (pm_g1 x w f (q820_32_5 v0 v1 v2 x w f)) := (s820_32_5_0 d v0 v1 v2 x w f).trans (((s820_32_5_1 d v0 v1 v2 x w f).trans ((pm_call1_of (z81 (d + 0) 6 x w f (by decide))).trans ((s820_32_5_2 d v0 v1 v2 x w f).trans (pm_iteG (g := (fun t => some (pm_g1 x w f t))) (fun _ => e820_32_6 d  (v2 + v1) 1 (v2 + v1) x w f) (fun _ => e820_32_6 d  (v2 + v1) 0 (v2 + v1) x w f))))))
theorem s820_32_4_0 {sc : pm_Sc} (d : Nat) (v0 : Int32) (v1 : Int32) (v2 : Int32) (x : Nat → Nat → Int32) (w : Nat → Nat → Bool) (f : Nat → Nat → Nat) : pm_ev (pm_call pm_Tf sc (d + 1)) sc 1 pm_c82 32 [(3, .inl 4), (2, .inl v0), (0, pm_r 67), (1, .inl 0)] [.inl v1, .inl v2] (pm_u x w f) = pm_ev (pm_call pm_Tf sc (d + 1)) sc 1 pm_c82 21 [(3, .inl 5), (2, .inl (v2 + v1)), (0, pm_r 67), (1, .inl 0)] [.inl 5, pm_r 67, .inl (v2 + v1)] (pm_u x w f) := by
  exact (pm_ev_iter [21, 32] 3000 _ _ _ _).trans rfl
theorem s820_32_4_1 {sc : pm_Sc} (d : Nat) (v0 : Int32) (v1 : Int32) (v2 : Int32) (x : Nat → Nat → Int32) (w : Nat → Nat → Bool) (f : Nat → Nat → Nat) : pm_ev (pm_call pm_Tf sc (d + 1)) sc 1 pm_c82 21 [(3, .inl 5), (2, .inl (v2 + v1)), (0, pm_r 67), (1, .inl 0)] [.inl 5, pm_r 67, .inl (v2 + v1)] (pm_u x w f) = pm_call1 (fun v u => pm_ev (pm_call pm_Tf sc (d + 1)) sc 1 pm_c82 24 [(3, .inl 5), (2, .inl (v2 + v1)), (0, pm_r 67), (1, .inl 0)] (v.toList ++ [.inl (v2 + v1)]) u) none ((pm_call pm_Tf sc (d + 1)) 81 [pm_r 67, .inl 5] (pm_u x w f)) := by
  exact (pm_ev_step _ _ _ _).trans rfl
theorem s820_32_4_2 {sc : pm_Sc} (d : Nat) (v0 : Int32) (v1 : Int32) (v2 : Int32) (x : Nat → Nat → Int32) (w : Nat → Nat → Bool) (f : Nat → Nat → Nat) : pm_ev (pm_call pm_Tf sc (d + 1)) sc 1 pm_c82 24 [(3, .inl 5), (2, .inl (v2 + v1)), (0, pm_r 67), (1, .inl 0)] [pm_b (q81 5 x w f), .inl (v2 + v1)] (pm_u x w f) = (if (q81 5 x w f) = true then pm_ev (pm_call pm_Tf sc (d + 1)) sc 1 pm_c82 32 [(3, .inl 5), (2, .inl (v2 + v1)), (0, pm_r 67), (1, .inl 0)] [.inl 1, .inl (v2 + v1)] (pm_u x w f) else pm_ev (pm_call pm_Tf sc (d + 1)) sc 1 pm_c82 32 [(3, .inl 5), (2, .inl (v2 + v1)), (0, pm_r 67), (1, .inl 0)] [.inl 0, .inl (v2 + v1)] (pm_u x w f)) := by
  exact (pm_ev_iter [21, 32] 3000 _ _ _ _).trans rfl
def q820_32_4 (v0 : Int32) (v1 : Int32) (v2 : Int32) (x : Nat → Nat → Int32) (w : Nat → Nat → Bool) (f : Nat → Nat → Nat) : Int32 := (if (q81 5 x w f) = true then q820_32_5 (v2 + v1) 1 (v2 + v1) x w f else q820_32_5 (v2 + v1) 0 (v2 + v1) x w f)
theorem e820_32_4 {sc : pm_Sc} (d : Nat) (v0 : Int32) (v1 : Int32) (v2 : Int32) (x : Nat → Nat → Int32) (w : Nat → Nat → Bool) (f : Nat → Nat → Nat) : pm_ev (pm_call pm_Tf sc (d + 1)) sc 1 pm_c82 32 [(3, .inl 4), (2, .inl v0), (0, pm_r 67), (1, .inl 0)] [.inl v1, .inl v2] (pm_u x w f) = some (pm_g1 x w f (q820_32_4 v0 v1 v2 x w f)) := (s820_32_4_0 d v0 v1 v2 x w f).trans (((s820_32_4_1 d v0 v1 v2 x w f).trans ((pm_call1_of (z81 (d + 0) 5 x w f (by decide))).trans ((s820_32_4_2 d v0 v1 v2 x w f).trans (pm_iteG (g := (fun t => some (pm_g1 x w f t))) (fun _ => e820_32_5 d  (v2 + v1) 1 (v2 + v1) x w f) (fun _ => e820_32_5 d  (v2 + v1) 0 (v2 + v1) x w f))))))
theorem s820_32_3_0 {sc : pm_Sc} (d : Nat) (v0 : Int32) (v1 : Int32) (v2 : Int32) (x : Nat → Nat → Int32) (w : Nat → Nat → Bool) (f : Nat → Nat → Nat) : pm_ev (pm_call pm_Tf sc (d + 1)) sc 1 pm_c82 32 [(3, .inl 3), (2, .inl v0), (0, pm_r 67), (1, .inl 0)] [.inl v1, .inl v2] (pm_u x w f) = pm_ev (pm_call pm_Tf sc (d + 1)) sc 1 pm_c82 21 [(3, .inl 4), (2, .inl (v2 + v1)), (0, pm_r 67), (1, .inl 0)] [.inl 4, pm_r 67, .inl (v2 + v1)] (pm_u x w f) := by
  exact (pm_ev_iter [21, 32] 3000 _ _ _ _).trans rfl
theorem s820_32_3_1 {sc : pm_Sc} (d : Nat) (v0 : Int32) (v1 : Int32) (v2 : Int32) (x : Nat → Nat → Int32) (w : Nat → Nat → Bool) (f : Nat → Nat → Nat) : pm_ev (pm_call pm_Tf sc (d + 1)) sc 1 pm_c82 21 [(3, .inl 4), (2, .inl (v2 + v1)), (0, pm_r 67), (1, .inl 0)] [.inl 4, pm_r 67, .inl (v2 + v1)] (pm_u x w f) = pm_call1 (fun v u => pm_ev (pm_call pm_Tf sc (d + 1)) sc 1 pm_c82 24 [(3, .inl 4), (2, .inl (v2 + v1)), (0, pm_r 67), (1, .inl 0)] (v.toList ++ [.inl (v2 + v1)]) u) none ((pm_call pm_Tf sc (d + 1)) 81 [pm_r 67, .inl 4] (pm_u x w f)) := by
  exact (pm_ev_step _ _ _ _).trans rfl
theorem s820_32_3_2 {sc : pm_Sc} (d : Nat) (v0 : Int32) (v1 : Int32) (v2 : Int32) (x : Nat → Nat → Int32) (w : Nat → Nat → Bool) (f : Nat → Nat → Nat) : pm_ev (pm_call pm_Tf sc (d + 1)) sc 1 pm_c82 24 [(3, .inl 4), (2, .inl (v2 + v1)), (0, pm_r 67), (1, .inl 0)] [pm_b (q81 4 x w f), .inl (v2 + v1)] (pm_u x w f) = (if (q81 4 x w f) = true then pm_ev (pm_call pm_Tf sc (d + 1)) sc 1 pm_c82 32 [(3, .inl 4), (2, .inl (v2 + v1)), (0, pm_r 67), (1, .inl 0)] [.inl 1, .inl (v2 + v1)] (pm_u x w f) else pm_ev (pm_call pm_Tf sc (d + 1)) sc 1 pm_c82 32 [(3, .inl 4), (2, .inl (v2 + v1)), (0, pm_r 67), (1, .inl 0)] [.inl 0, .inl (v2 + v1)] (pm_u x w f)) := by
  exact (pm_ev_iter [21, 32] 3000 _ _ _ _).trans rfl
def q820_32_3 (v0 : Int32) (v1 : Int32) (v2 : Int32) (x : Nat → Nat → Int32) (w : Nat → Nat → Bool) (f : Nat → Nat → Nat) : Int32 := (if (q81 4 x w f) = true then q820_32_4 (v2 + v1) 1 (v2 + v1) x w f else q820_32_4 (v2 + v1) 0 (v2 + v1) x w f)
theorem e820_32_3 {sc : pm_Sc} (d : Nat) (v0 : Int32) (v1 : Int32) (v2 : Int32) (x : Nat → Nat → Int32) (w : Nat → Nat → Bool) (f : Nat → Nat → Nat) : pm_ev (pm_call pm_Tf sc (d + 1)) sc 1 pm_c82 32 [(3, .inl 3), (2, .inl v0), (0, pm_r 67), (1, .inl 0)] [.inl v1, .inl v2] (pm_u x w f) = some (pm_g1 x w f (q820_32_3 v0 v1 v2 x w f)) := (s820_32_3_0 d v0 v1 v2 x w f).trans (((s820_32_3_1 d v0 v1 v2 x w f).trans ((pm_call1_of (z81 (d + 0) 4 x w f (by decide))).trans ((s820_32_3_2 d v0 v1 v2 x w f).trans (pm_iteG (g := (fun t => some (pm_g1 x w f t))) (fun _ => e820_32_4 d  (v2 + v1) 1 (v2 + v1) x w f) (fun _ => e820_32_4 d  (v2 + v1) 0 (v2 + v1) x w f))))))
theorem s820_32_2_0 {sc : pm_Sc} (d : Nat) (v0 : Int32) (v1 : Int32) (v2 : Int32) (x : Nat → Nat → Int32) (w : Nat → Nat → Bool) (f : Nat → Nat → Nat) : pm_ev (pm_call pm_Tf sc (d + 1)) sc 1 pm_c82 32 [(3, .inl 2), (2, .inl v0), (0, pm_r 67), (1, .inl 0)] [.inl v1, .inl v2] (pm_u x w f) = pm_ev (pm_call pm_Tf sc (d + 1)) sc 1 pm_c82 21 [(3, .inl 3), (2, .inl (v2 + v1)), (0, pm_r 67), (1, .inl 0)] [.inl 3, pm_r 67, .inl (v2 + v1)] (pm_u x w f) := by
  exact (pm_ev_iter [21, 32] 3000 _ _ _ _).trans rfl
theorem s820_32_2_1 {sc : pm_Sc} (d : Nat) (v0 : Int32) (v1 : Int32) (v2 : Int32) (x : Nat → Nat → Int32) (w : Nat → Nat → Bool) (f : Nat → Nat → Nat) : pm_ev (pm_call pm_Tf sc (d + 1)) sc 1 pm_c82 21 [(3, .inl 3), (2, .inl (v2 + v1)), (0, pm_r 67), (1, .inl 0)] [.inl 3, pm_r 67, .inl (v2 + v1)] (pm_u x w f) = pm_call1 (fun v u => pm_ev (pm_call pm_Tf sc (d + 1)) sc 1 pm_c82 24 [(3, .inl 3), (2, .inl (v2 + v1)), (0, pm_r 67), (1, .inl 0)] (v.toList ++ [.inl (v2 + v1)]) u) none ((pm_call pm_Tf sc (d + 1)) 81 [pm_r 67, .inl 3] (pm_u x w f)) := by
  exact (pm_ev_step _ _ _ _).trans rfl
theorem s820_32_2_2 {sc : pm_Sc} (d : Nat) (v0 : Int32) (v1 : Int32) (v2 : Int32) (x : Nat → Nat → Int32) (w : Nat → Nat → Bool) (f : Nat → Nat → Nat) : pm_ev (pm_call pm_Tf sc (d + 1)) sc 1 pm_c82 24 [(3, .inl 3), (2, .inl (v2 + v1)), (0, pm_r 67), (1, .inl 0)] [pm_b (q81 3 x w f), .inl (v2 + v1)] (pm_u x w f) = (if (q81 3 x w f) = true then pm_ev (pm_call pm_Tf sc (d + 1)) sc 1 pm_c82 32 [(3, .inl 3), (2, .inl (v2 + v1)), (0, pm_r 67), (1, .inl 0)] [.inl 1, .inl (v2 + v1)] (pm_u x w f) else pm_ev (pm_call pm_Tf sc (d + 1)) sc 1 pm_c82 32 [(3, .inl 3), (2, .inl (v2 + v1)), (0, pm_r 67), (1, .inl 0)] [.inl 0, .inl (v2 + v1)] (pm_u x w f)) := by
  exact (pm_ev_iter [21, 32] 3000 _ _ _ _).trans rfl
def q820_32_2 (v0 : Int32) (v1 : Int32) (v2 : Int32) (x : Nat → Nat → Int32) (w : Nat → Nat → Bool) (f : Nat → Nat → Nat) : Int32 := (if (q81 3 x w f) = true then q820_32_3 (v2 + v1) 1 (v2 + v1) x w f else q820_32_3 (v2 + v1) 0 (v2 + v1) x w f)
theorem e820_32_2 {sc : pm_Sc} (d : Nat) (v0 : Int32) (v1 : Int32) (v2 : Int32) (x : Nat → Nat → Int32) (w : Nat → Nat → Bool) (f : Nat → Nat → Nat) : pm_ev (pm_call pm_Tf sc (d + 1)) sc 1 pm_c82 32 [(3, .inl 2), (2, .inl v0), (0, pm_r 67), (1, .inl 0)] [.inl v1, .inl v2] (pm_u x w f) = some (pm_g1 x w f (q820_32_2 v0 v1 v2 x w f)) := (s820_32_2_0 d v0 v1 v2 x w f).trans (((s820_32_2_1 d v0 v1 v2 x w f).trans ((pm_call1_of (z81 (d + 0) 3 x w f (by decide))).trans ((s820_32_2_2 d v0 v1 v2 x w f).trans (pm_iteG (g := (fun t => some (pm_g1 x w f t))) (fun _ => e820_32_3 d  (v2 + v1) 1 (v2 + v1) x w f) (fun _ => e820_32_3 d  (v2 + v1) 0 (v2 + v1) x w f))))))
theorem s820_32_1_0 {sc : pm_Sc} (d : Nat) (v0 : Int32) (v1 : Int32) (v2 : Int32) (x : Nat → Nat → Int32) (w : Nat → Nat → Bool) (f : Nat → Nat → Nat) : pm_ev (pm_call pm_Tf sc (d + 1)) sc 1 pm_c82 32 [(3, .inl 1), (2, .inl v0), (0, pm_r 67), (1, .inl 0)] [.inl v1, .inl v2] (pm_u x w f) = pm_ev (pm_call pm_Tf sc (d + 1)) sc 1 pm_c82 21 [(3, .inl 2), (2, .inl (v2 + v1)), (0, pm_r 67), (1, .inl 0)] [.inl 2, pm_r 67, .inl (v2 + v1)] (pm_u x w f) := by
  exact (pm_ev_iter [21, 32] 3000 _ _ _ _).trans rfl
theorem s820_32_1_1 {sc : pm_Sc} (d : Nat) (v0 : Int32) (v1 : Int32) (v2 : Int32) (x : Nat → Nat → Int32) (w : Nat → Nat → Bool) (f : Nat → Nat → Nat) : pm_ev (pm_call pm_Tf sc (d + 1)) sc 1 pm_c82 21 [(3, .inl 2), (2, .inl (v2 + v1)), (0, pm_r 67), (1, .inl 0)] [.inl 2, pm_r 67, .inl (v2 + v1)] (pm_u x w f) = pm_call1 (fun v u => pm_ev (pm_call pm_Tf sc (d + 1)) sc 1 pm_c82 24 [(3, .inl 2), (2, .inl (v2 + v1)), (0, pm_r 67), (1, .inl 0)] (v.toList ++ [.inl (v2 + v1)]) u) none ((pm_call pm_Tf sc (d + 1)) 81 [pm_r 67, .inl 2] (pm_u x w f)) := by
  exact (pm_ev_step _ _ _ _).trans rfl
theorem s820_32_1_2 {sc : pm_Sc} (d : Nat) (v0 : Int32) (v1 : Int32) (v2 : Int32) (x : Nat → Nat → Int32) (w : Nat → Nat → Bool) (f : Nat → Nat → Nat) : pm_ev (pm_call pm_Tf sc (d + 1)) sc 1 pm_c82 24 [(3, .inl 2), (2, .inl (v2 + v1)), (0, pm_r 67), (1, .inl 0)] [pm_b (q81 2 x w f), .inl (v2 + v1)] (pm_u x w f) = (if (q81 2 x w f) = true then pm_ev (pm_call pm_Tf sc (d + 1)) sc 1 pm_c82 32 [(3, .inl 2), (2, .inl (v2 + v1)), (0, pm_r 67), (1, .inl 0)] [.inl 1, .inl (v2 + v1)] (pm_u x w f) else pm_ev (pm_call pm_Tf sc (d + 1)) sc 1 pm_c82 32 [(3, .inl 2), (2, .inl (v2 + v1)), (0, pm_r 67), (1, .inl 0)] [.inl 0, .inl (v2 + v1)] (pm_u x w f)) := by
  exact (pm_ev_iter [21, 32] 3000 _ _ _ _).trans rfl
def q820_32_1 (v0 : Int32) (v1 : Int32) (v2 : Int32) (x : Nat → Nat → Int32) (w : Nat → Nat → Bool) (f : Nat → Nat → Nat) : Int32 := (if (q81 2 x w f) = true then q820_32_2 (v2 + v1) 1 (v2 + v1) x w f else q820_32_2 (v2 + v1) 0 (v2 + v1) x w f)
theorem e820_32_1 {sc : pm_Sc} (d : Nat) (v0 : Int32) (v1 : Int32) (v2 : Int32) (x : Nat → Nat → Int32) (w : Nat → Nat → Bool) (f : Nat → Nat → Nat) : pm_ev (pm_call pm_Tf sc (d + 1)) sc 1 pm_c82 32 [(3, .inl 1), (2, .inl v0), (0, pm_r 67), (1, .inl 0)] [.inl v1, .inl v2] (pm_u x w f) = some (pm_g1 x w f (q820_32_1 v0 v1 v2 x w f)) := (s820_32_1_0 d v0 v1 v2 x w f).trans (((s820_32_1_1 d v0 v1 v2 x w f).trans ((pm_call1_of (z81 (d + 0) 2 x w f (by decide))).trans ((s820_32_1_2 d v0 v1 v2 x w f).trans (pm_iteG (g := (fun t => some (pm_g1 x w f t))) (fun _ => e820_32_2 d  (v2 + v1) 1 (v2 + v1) x w f) (fun _ => e820_32_2 d  (v2 + v1) 0 (v2 + v1) x w f))))))
theorem s820_32_0 {sc : pm_Sc} (d : Nat) (v0 : Int32) (x : Nat → Nat → Int32) (w : Nat → Nat → Bool) (f : Nat → Nat → Nat) : pm_ev (pm_call pm_Tf sc (d + 1)) sc 1 pm_c82 32 [(3, .inl 0), (2, .inl 0), (0, pm_r 67), (1, .inl 0)] [.inl v0, .inl 0] (pm_u x w f) = pm_ev (pm_call pm_Tf sc (d + 1)) sc 1 pm_c82 21 [(3, .inl 1), (2, .inl ((0 : Int32) + v0)), (0, pm_r 67), (1, .inl 0)] [.inl 1, pm_r 67, .inl ((0 : Int32) + v0)] (pm_u x w f) := by
  exact (pm_ev_iter [21, 32] 3000 _ _ _ _).trans rfl
theorem s820_32_1 {sc : pm_Sc} (d : Nat) (v0 : Int32) (x : Nat → Nat → Int32) (w : Nat → Nat → Bool) (f : Nat → Nat → Nat) : pm_ev (pm_call pm_Tf sc (d + 1)) sc 1 pm_c82 21 [(3, .inl 1), (2, .inl ((0 : Int32) + v0)), (0, pm_r 67), (1, .inl 0)] [.inl 1, pm_r 67, .inl ((0 : Int32) + v0)] (pm_u x w f) = pm_call1 (fun v u => pm_ev (pm_call pm_Tf sc (d + 1)) sc 1 pm_c82 24 [(3, .inl 1), (2, .inl ((0 : Int32) + v0)), (0, pm_r 67), (1, .inl 0)] (v.toList ++ [.inl ((0 : Int32) + v0)]) u) none ((pm_call pm_Tf sc (d + 1)) 81 [pm_r 67, .inl 1] (pm_u x w f)) := by
  exact (pm_ev_step _ _ _ _).trans rfl
theorem s820_32_2 {sc : pm_Sc} (d : Nat) (v0 : Int32) (x : Nat → Nat → Int32) (w : Nat → Nat → Bool) (f : Nat → Nat → Nat) : pm_ev (pm_call pm_Tf sc (d + 1)) sc 1 pm_c82 24 [(3, .inl 1), (2, .inl ((0 : Int32) + v0)), (0, pm_r 67), (1, .inl 0)] [pm_b (q81 1 x w f), .inl ((0 : Int32) + v0)] (pm_u x w f) = (if (q81 1 x w f) = true then pm_ev (pm_call pm_Tf sc (d + 1)) sc 1 pm_c82 32 [(3, .inl 1), (2, .inl ((0 : Int32) + v0)), (0, pm_r 67), (1, .inl 0)] [.inl 1, .inl ((0 : Int32) + v0)] (pm_u x w f) else pm_ev (pm_call pm_Tf sc (d + 1)) sc 1 pm_c82 32 [(3, .inl 1), (2, .inl ((0 : Int32) + v0)), (0, pm_r 67), (1, .inl 0)] [.inl 0, .inl ((0 : Int32) + v0)] (pm_u x w f)) := by
  exact (pm_ev_iter [21, 32] 3000 _ _ _ _).trans rfl
def q820_32 (v0 : Int32) (x : Nat → Nat → Int32) (w : Nat → Nat → Bool) (f : Nat → Nat → Nat) : Int32 := (if (q81 1 x w f) = true then q820_32_1 ((0 : Int32) + v0) 1 ((0 : Int32) + v0) x w f else q820_32_1 ((0 : Int32) + v0) 0 ((0 : Int32) + v0) x w f)
theorem e820_32 {sc : pm_Sc} (d : Nat) (v0 : Int32) (x : Nat → Nat → Int32) (w : Nat → Nat → Bool) (f : Nat → Nat → Nat) : pm_ev (pm_call pm_Tf sc (d + 1)) sc 1 pm_c82 32 [(3, .inl 0), (2, .inl 0), (0, pm_r 67), (1, .inl 0)] [.inl v0, .inl 0] (pm_u x w f) = some (pm_g1 x w f (q820_32 v0 x w f)) := (s820_32_0 d v0 x w f).trans (((s820_32_1 d v0 x w f).trans ((pm_call1_of (z81 (d + 0) 1 x w f (by decide))).trans ((s820_32_2 d v0 x w f).trans (pm_iteG (g := (fun t => some (pm_g1 x w f t))) (fun _ => e820_32_1 d  ((0 : Int32) + v0) 1 ((0 : Int32) + v0) x w f) (fun _ => e820_32_1 d  ((0 : Int32) + v0) 0 ((0 : Int32) + v0) x w f))))))
theorem s820_0 {sc : pm_Sc} (d : Nat)  (x : Nat → Nat → Int32) (w : Nat → Nat → Bool) (f : Nat → Nat → Nat) : pm_ev (pm_call pm_Tf sc (d + 1)) sc 1 pm_c82 0 [(0, pm_r 67), (1, .inl 0)] [] (pm_u x w f) = pm_ev (pm_call pm_Tf sc (d + 1)) sc 1 pm_c82 21 [(3, .inl 0), (2, .inl 0), (0, pm_r 67), (1, .inl 0)] [.inl 0, pm_r 67, .inl 0] (pm_u x w f) := by
  exact (pm_ev_iter [21, 32] 3000 _ _ _ _).trans rfl
theorem s820_1 {sc : pm_Sc} (d : Nat)  (x : Nat → Nat → Int32) (w : Nat → Nat → Bool) (f : Nat → Nat → Nat) : pm_ev (pm_call pm_Tf sc (d + 1)) sc 1 pm_c82 21 [(3, .inl 0), (2, .inl 0), (0, pm_r 67), (1, .inl 0)] [.inl 0, pm_r 67, .inl 0] (pm_u x w f) = pm_call1 (fun v u => pm_ev (pm_call pm_Tf sc (d + 1)) sc 1 pm_c82 24 [(3, .inl 0), (2, .inl 0), (0, pm_r 67), (1, .inl 0)] (v.toList ++ [.inl 0]) u) none ((pm_call pm_Tf sc (d + 1)) 81 [pm_r 67, .inl 0] (pm_u x w f)) := by
  exact (pm_ev_step _ _ _ _).trans rfl
theorem s820_2 {sc : pm_Sc} (d : Nat)  (x : Nat → Nat → Int32) (w : Nat → Nat → Bool) (f : Nat → Nat → Nat) : pm_ev (pm_call pm_Tf sc (d + 1)) sc 1 pm_c82 24 [(3, .inl 0), (2, .inl 0), (0, pm_r 67), (1, .inl 0)] [pm_b (q81 0 x w f), .inl 0] (pm_u x w f) = (if (q81 0 x w f) = true then pm_ev (pm_call pm_Tf sc (d + 1)) sc 1 pm_c82 32 [(3, .inl 0), (2, .inl 0), (0, pm_r 67), (1, .inl 0)] [.inl 1, .inl 0] (pm_u x w f) else pm_ev (pm_call pm_Tf sc (d + 1)) sc 1 pm_c82 32 [(3, .inl 0), (2, .inl 0), (0, pm_r 67), (1, .inl 0)] [.inl 0, .inl 0] (pm_u x w f)) := by
  exact (pm_ev_iter [21, 32] 3000 _ _ _ _).trans rfl
def q820 (x : Nat → Nat → Int32) (w : Nat → Nat → Bool) (f : Nat → Nat → Nat) : Int32 := (if (q81 0 x w f) = true then q820_32 1 x w f else q820_32 0 x w f)
theorem e820 {sc : pm_Sc} (d : Nat)  (x : Nat → Nat → Int32) (w : Nat → Nat → Bool) (f : Nat → Nat → Nat) : pm_ev (pm_call pm_Tf sc (d + 1)) sc 1 pm_c82 0 [(0, pm_r 67), (1, .inl 0)] [] (pm_u x w f) = some (pm_g1 x w f (q820 x w f)) := (s820_0 d  x w f).trans (((s820_1 d  x w f).trans ((pm_call1_of (z81 (d + 0) 0 x w f (by decide))).trans ((s820_2 d  x w f).trans (pm_iteG (g := (fun t => some (pm_g1 x w f t))) (fun _ => e820_32 d  1 x w f) (fun _ => e820_32 d  0 x w f))))))
theorem z820 {sc : pm_Sc} (d : Nat) (x : Nat → Nat → Int32) (w : Nat → Nat → Bool) (f : Nat → Nat → Nat) : pm_call pm_Tf sc (d + 2) 82 [pm_r 67, .inl 0] (pm_u x w f) = some (pm_g1 x w f (q820 x w f)) := e820 d x w f
theorem s821_32_7_0 {sc : pm_Sc} (d : Nat) (v0 : Int32) (v1 : Int32) (v2 : Int32) (x : Nat → Nat → Int32) (w : Nat → Nat → Bool) (f : Nat → Nat → Nat) : pm_ev (pm_call pm_Tf sc (d + 1)) sc 1 pm_c82 32 [(3, .inl 15), (2, .inl v0), (0, pm_r 67), (1, .inl 1)] [.inl v1, .inl v2] (pm_u x w f) = some (some (.inl (v2 + v1)), pm_u x w f) := by
  exact (pm_ev_iter [21, 32] 3000 _ _ _ _).trans rfl
def q821_32_7 (v0 : Int32) (v1 : Int32) (v2 : Int32) (x : Nat → Nat → Int32) (w : Nat → Nat → Bool) (f : Nat → Nat → Nat) : Int32 := v2 + v1
theorem e821_32_7 {sc : pm_Sc} (d : Nat) (v0 : Int32) (v1 : Int32) (v2 : Int32) (x : Nat → Nat → Int32) (w : Nat → Nat → Bool) (f : Nat → Nat → Nat) : pm_ev (pm_call pm_Tf sc (d + 1)) sc 1 pm_c82 32 [(3, .inl 15), (2, .inl v0), (0, pm_r 67), (1, .inl 1)] [.inl v1, .inl v2] (pm_u x w f) = some (pm_g1 x w f (q821_32_7 v0 v1 v2 x w f)) := (s821_32_7_0 d v0 v1 v2 x w f).trans (rfl)
theorem s821_32_6_0 {sc : pm_Sc} (d : Nat) (v0 : Int32) (v1 : Int32) (v2 : Int32) (x : Nat → Nat → Int32) (w : Nat → Nat → Bool) (f : Nat → Nat → Nat) : pm_ev (pm_call pm_Tf sc (d + 1)) sc 1 pm_c82 32 [(3, .inl 14), (2, .inl v0), (0, pm_r 67), (1, .inl 1)] [.inl v1, .inl v2] (pm_u x w f) = pm_ev (pm_call pm_Tf sc (d + 1)) sc 1 pm_c82 21 [(3, .inl 15), (2, .inl (v2 + v1)), (0, pm_r 67), (1, .inl 1)] [.inl 15, pm_r 67, .inl (v2 + v1)] (pm_u x w f) := by
  exact (pm_ev_iter [21, 32] 3000 _ _ _ _).trans rfl
theorem s821_32_6_1 {sc : pm_Sc} (d : Nat) (v0 : Int32) (v1 : Int32) (v2 : Int32) (x : Nat → Nat → Int32) (w : Nat → Nat → Bool) (f : Nat → Nat → Nat) : pm_ev (pm_call pm_Tf sc (d + 1)) sc 1 pm_c82 21 [(3, .inl 15), (2, .inl (v2 + v1)), (0, pm_r 67), (1, .inl 1)] [.inl 15, pm_r 67, .inl (v2 + v1)] (pm_u x w f) = pm_call1 (fun v u => pm_ev (pm_call pm_Tf sc (d + 1)) sc 1 pm_c82 24 [(3, .inl 15), (2, .inl (v2 + v1)), (0, pm_r 67), (1, .inl 1)] (v.toList ++ [.inl (v2 + v1)]) u) none ((pm_call pm_Tf sc (d + 1)) 81 [pm_r 67, .inl 15] (pm_u x w f)) := by
  exact (pm_ev_step _ _ _ _).trans rfl
theorem s821_32_6_2 {sc : pm_Sc} (d : Nat) (v0 : Int32) (v1 : Int32) (v2 : Int32) (x : Nat → Nat → Int32) (w : Nat → Nat → Bool) (f : Nat → Nat → Nat) : pm_ev (pm_call pm_Tf sc (d + 1)) sc 1 pm_c82 24 [(3, .inl 15), (2, .inl (v2 + v1)), (0, pm_r 67), (1, .inl 1)] [pm_b (q81 15 x w f), .inl (v2 + v1)] (pm_u x w f) = (if (q81 15 x w f) = true then pm_ev (pm_call pm_Tf sc (d + 1)) sc 1 pm_c82 32 [(3, .inl 15), (2, .inl (v2 + v1)), (0, pm_r 67), (1, .inl 1)] [.inl 1, .inl (v2 + v1)] (pm_u x w f) else pm_ev (pm_call pm_Tf sc (d + 1)) sc 1 pm_c82 32 [(3, .inl 15), (2, .inl (v2 + v1)), (0, pm_r 67), (1, .inl 1)] [.inl 0, .inl (v2 + v1)] (pm_u x w f)) := by
  exact (pm_ev_iter [21, 32] 3000 _ _ _ _).trans rfl
def q821_32_6 (v0 : Int32) (v1 : Int32) (v2 : Int32) (x : Nat → Nat → Int32) (w : Nat → Nat → Bool) (f : Nat → Nat → Nat) : Int32 := (if (q81 15 x w f) = true then q821_32_7 (v2 + v1) 1 (v2 + v1) x w f else q821_32_7 (v2 + v1) 0 (v2 + v1) x w f)
theorem e821_32_6 {sc : pm_Sc} (d : Nat) (v0 : Int32) (v1 : Int32) (v2 : Int32) (x : Nat → Nat → Int32) (w : Nat → Nat → Bool) (f : Nat → Nat → Nat) : pm_ev (pm_call pm_Tf sc (d + 1)) sc 1 pm_c82 32 [(3, .inl 14), (2, .inl v0), (0, pm_r 67), (1, .inl 1)] [.inl v1, .inl v2] (pm_u x w f) = some (pm_g1 x w f (q821_32_6 v0 v1 v2 x w f)) := (s821_32_6_0 d v0 v1 v2 x w f).trans (((s821_32_6_1 d v0 v1 v2 x w f).trans ((pm_call1_of (z81 (d + 0) 15 x w f (by decide))).trans ((s821_32_6_2 d v0 v1 v2 x w f).trans (pm_iteG (g := (fun t => some (pm_g1 x w f t))) (fun _ => e821_32_7 d  (v2 + v1) 1 (v2 + v1) x w f) (fun _ => e821_32_7 d  (v2 + v1) 0 (v2 + v1) x w f))))))
theorem s821_32_5_0 {sc : pm_Sc} (d : Nat) (v0 : Int32) (v1 : Int32) (v2 : Int32) (x : Nat → Nat → Int32) (w : Nat → Nat → Bool) (f : Nat → Nat → Nat) : pm_ev (pm_call pm_Tf sc (d + 1)) sc 1 pm_c82 32 [(3, .inl 13), (2, .inl v0), (0, pm_r 67), (1, .inl 1)] [.inl v1, .inl v2] (pm_u x w f) = pm_ev (pm_call pm_Tf sc (d + 1)) sc 1 pm_c82 21 [(3, .inl 14), (2, .inl (v2 + v1)), (0, pm_r 67), (1, .inl 1)] [.inl 14, pm_r 67, .inl (v2 + v1)] (pm_u x w f) := by
  exact (pm_ev_iter [21, 32] 3000 _ _ _ _).trans rfl
theorem s821_32_5_1 {sc : pm_Sc} (d : Nat) (v0 : Int32) (v1 : Int32) (v2 : Int32) (x : Nat → Nat → Int32) (w : Nat → Nat → Bool) (f : Nat → Nat → Nat) : pm_ev (pm_call pm_Tf sc (d + 1)) sc 1 pm_c82 21 [(3, .inl 14), (2, .inl (v2 + v1)), (0, pm_r 67), (1, .inl 1)] [.inl 14, pm_r 67, .inl (v2 + v1)] (pm_u x w f) = pm_call1 (fun v u => pm_ev (pm_call pm_Tf sc (d + 1)) sc 1 pm_c82 24 [(3, .inl 14), (2, .inl (v2 + v1)), (0, pm_r 67), (1, .inl 1)] (v.toList ++ [.inl (v2 + v1)]) u) none ((pm_call pm_Tf sc (d + 1)) 81 [pm_r 67, .inl 14] (pm_u x w f)) := by
  exact (pm_ev_step _ _ _ _).trans rfl
theorem s821_32_5_2 {sc : pm_Sc} (d : Nat) (v0 : Int32) (v1 : Int32) (v2 : Int32) (x : Nat → Nat → Int32) (w : Nat → Nat → Bool) (f : Nat → Nat → Nat) : pm_ev (pm_call pm_Tf sc (d + 1)) sc 1 pm_c82 24 [(3, .inl 14), (2, .inl (v2 + v1)), (0, pm_r 67), (1, .inl 1)] [pm_b (q81 14 x w f), .inl (v2 + v1)] (pm_u x w f) = (if (q81 14 x w f) = true then pm_ev (pm_call pm_Tf sc (d + 1)) sc 1 pm_c82 32 [(3, .inl 14), (2, .inl (v2 + v1)), (0, pm_r 67), (1, .inl 1)] [.inl 1, .inl (v2 + v1)] (pm_u x w f) else pm_ev (pm_call pm_Tf sc (d + 1)) sc 1 pm_c82 32 [(3, .inl 14), (2, .inl (v2 + v1)), (0, pm_r 67), (1, .inl 1)] [.inl 0, .inl (v2 + v1)] (pm_u x w f)) := by
  exact (pm_ev_iter [21, 32] 3000 _ _ _ _).trans rfl
def q821_32_5 (v0 : Int32) (v1 : Int32) (v2 : Int32) (x : Nat → Nat → Int32) (w : Nat → Nat → Bool) (f : Nat → Nat → Nat) : Int32 := (if (q81 14 x w f) = true then q821_32_6 (v2 + v1) 1 (v2 + v1) x w f else q821_32_6 (v2 + v1) 0 (v2 + v1) x w f)
theorem e821_32_5 {sc : pm_Sc} (d : Nat) (v0 : Int32) (v1 : Int32) (v2 : Int32) (x : Nat → Nat → Int32) (w : Nat → Nat → Bool) (f : Nat → Nat → Nat) : pm_ev (pm_call pm_Tf sc (d + 1)) sc 1 pm_c82 32 [(3, .inl 13), (2, .inl v0), (0, pm_r 67), (1, .inl 1)] [.inl v1, .inl v2] (pm_u x w f) = some (pm_g1 x w f (q821_32_5 v0 v1 v2 x w f)) := (s821_32_5_0 d v0 v1 v2 x w f).trans (((s821_32_5_1 d v0 v1 v2 x w f).trans ((pm_call1_of (z81 (d + 0) 14 x w f (by decide))).trans ((s821_32_5_2 d v0 v1 v2 x w f).trans (pm_iteG (g := (fun t => some (pm_g1 x w f t))) (fun _ => e821_32_6 d  (v2 + v1) 1 (v2 + v1) x w f) (fun _ => e821_32_6 d  (v2 + v1) 0 (v2 + v1) x w f))))))
theorem s821_32_4_0 {sc : pm_Sc} (d : Nat) (v0 : Int32) (v1 : Int32) (v2 : Int32) (x : Nat → Nat → Int32) (w : Nat → Nat → Bool) (f : Nat → Nat → Nat) : pm_ev (pm_call pm_Tf sc (d + 1)) sc 1 pm_c82 32 [(3, .inl 12), (2, .inl v0), (0, pm_r 67), (1, .inl 1)] [.inl v1, .inl v2] (pm_u x w f) = pm_ev (pm_call pm_Tf sc (d + 1)) sc 1 pm_c82 21 [(3, .inl 13), (2, .inl (v2 + v1)), (0, pm_r 67), (1, .inl 1)] [.inl 13, pm_r 67, .inl (v2 + v1)] (pm_u x w f) := by
  exact (pm_ev_iter [21, 32] 3000 _ _ _ _).trans rfl
theorem s821_32_4_1 {sc : pm_Sc} (d : Nat) (v0 : Int32) (v1 : Int32) (v2 : Int32) (x : Nat → Nat → Int32) (w : Nat → Nat → Bool) (f : Nat → Nat → Nat) : pm_ev (pm_call pm_Tf sc (d + 1)) sc 1 pm_c82 21 [(3, .inl 13), (2, .inl (v2 + v1)), (0, pm_r 67), (1, .inl 1)] [.inl 13, pm_r 67, .inl (v2 + v1)] (pm_u x w f) = pm_call1 (fun v u => pm_ev (pm_call pm_Tf sc (d + 1)) sc 1 pm_c82 24 [(3, .inl 13), (2, .inl (v2 + v1)), (0, pm_r 67), (1, .inl 1)] (v.toList ++ [.inl (v2 + v1)]) u) none ((pm_call pm_Tf sc (d + 1)) 81 [pm_r 67, .inl 13] (pm_u x w f)) := by
  exact (pm_ev_step _ _ _ _).trans rfl
theorem s821_32_4_2 {sc : pm_Sc} (d : Nat) (v0 : Int32) (v1 : Int32) (v2 : Int32) (x : Nat → Nat → Int32) (w : Nat → Nat → Bool) (f : Nat → Nat → Nat) : pm_ev (pm_call pm_Tf sc (d + 1)) sc 1 pm_c82 24 [(3, .inl 13), (2, .inl (v2 + v1)), (0, pm_r 67), (1, .inl 1)] [pm_b (q81 13 x w f), .inl (v2 + v1)] (pm_u x w f) = (if (q81 13 x w f) = true then pm_ev (pm_call pm_Tf sc (d + 1)) sc 1 pm_c82 32 [(3, .inl 13), (2, .inl (v2 + v1)), (0, pm_r 67), (1, .inl 1)] [.inl 1, .inl (v2 + v1)] (pm_u x w f) else pm_ev (pm_call pm_Tf sc (d + 1)) sc 1 pm_c82 32 [(3, .inl 13), (2, .inl (v2 + v1)), (0, pm_r 67), (1, .inl 1)] [.inl 0, .inl (v2 + v1)] (pm_u x w f)) := by
  exact (pm_ev_iter [21, 32] 3000 _ _ _ _).trans rfl
def q821_32_4 (v0 : Int32) (v1 : Int32) (v2 : Int32) (x : Nat → Nat → Int32) (w : Nat → Nat → Bool) (f : Nat → Nat → Nat) : Int32 := (if (q81 13 x w f) = true then q821_32_5 (v2 + v1) 1 (v2 + v1) x w f else q821_32_5 (v2 + v1) 0 (v2 + v1) x w f)
theorem e821_32_4 {sc : pm_Sc} (d : Nat) (v0 : Int32) (v1 : Int32) (v2 : Int32) (x : Nat → Nat → Int32) (w : Nat → Nat → Bool) (f : Nat → Nat → Nat) : pm_ev (pm_call pm_Tf sc (d + 1)) sc 1 pm_c82 32 [(3, .inl 12), (2, .inl v0), (0, pm_r 67), (1, .inl 1)] [.inl v1, .inl v2] (pm_u x w f) = some (pm_g1 x w f (q821_32_4 v0 v1 v2 x w f)) := (s821_32_4_0 d v0 v1 v2 x w f).trans (((s821_32_4_1 d v0 v1 v2 x w f).trans ((pm_call1_of (z81 (d + 0) 13 x w f (by decide))).trans ((s821_32_4_2 d v0 v1 v2 x w f).trans (pm_iteG (g := (fun t => some (pm_g1 x w f t))) (fun _ => e821_32_5 d  (v2 + v1) 1 (v2 + v1) x w f) (fun _ => e821_32_5 d  (v2 + v1) 0 (v2 + v1) x w f))))))
theorem s821_32_3_0 {sc : pm_Sc} (d : Nat) (v0 : Int32) (v1 : Int32) (v2 : Int32) (x : Nat → Nat → Int32) (w : Nat → Nat → Bool) (f : Nat → Nat → Nat) : pm_ev (pm_call pm_Tf sc (d + 1)) sc 1 pm_c82 32 [(3, .inl 11), (2, .inl v0), (0, pm_r 67), (1, .inl 1)] [.inl v1, .inl v2] (pm_u x w f) = pm_ev (pm_call pm_Tf sc (d + 1)) sc 1 pm_c82 21 [(3, .inl 12), (2, .inl (v2 + v1)), (0, pm_r 67), (1, .inl 1)] [.inl 12, pm_r 67, .inl (v2 + v1)] (pm_u x w f) := by
  exact (pm_ev_iter [21, 32] 3000 _ _ _ _).trans rfl
theorem s821_32_3_1 {sc : pm_Sc} (d : Nat) (v0 : Int32) (v1 : Int32) (v2 : Int32) (x : Nat → Nat → Int32) (w : Nat → Nat → Bool) (f : Nat → Nat → Nat) : pm_ev (pm_call pm_Tf sc (d + 1)) sc 1 pm_c82 21 [(3, .inl 12), (2, .inl (v2 + v1)), (0, pm_r 67), (1, .inl 1)] [.inl 12, pm_r 67, .inl (v2 + v1)] (pm_u x w f) = pm_call1 (fun v u => pm_ev (pm_call pm_Tf sc (d + 1)) sc 1 pm_c82 24 [(3, .inl 12), (2, .inl (v2 + v1)), (0, pm_r 67), (1, .inl 1)] (v.toList ++ [.inl (v2 + v1)]) u) none ((pm_call pm_Tf sc (d + 1)) 81 [pm_r 67, .inl 12] (pm_u x w f)) := by
  exact (pm_ev_step _ _ _ _).trans rfl
theorem s821_32_3_2 {sc : pm_Sc} (d : Nat) (v0 : Int32) (v1 : Int32) (v2 : Int32) (x : Nat → Nat → Int32) (w : Nat → Nat → Bool) (f : Nat → Nat → Nat) : pm_ev (pm_call pm_Tf sc (d + 1)) sc 1 pm_c82 24 [(3, .inl 12), (2, .inl (v2 + v1)), (0, pm_r 67), (1, .inl 1)] [pm_b (q81 12 x w f), .inl (v2 + v1)] (pm_u x w f) = (if (q81 12 x w f) = true then pm_ev (pm_call pm_Tf sc (d + 1)) sc 1 pm_c82 32 [(3, .inl 12), (2, .inl (v2 + v1)), (0, pm_r 67), (1, .inl 1)] [.inl 1, .inl (v2 + v1)] (pm_u x w f) else pm_ev (pm_call pm_Tf sc (d + 1)) sc 1 pm_c82 32 [(3, .inl 12), (2, .inl (v2 + v1)), (0, pm_r 67), (1, .inl 1)] [.inl 0, .inl (v2 + v1)] (pm_u x w f)) := by
  exact (pm_ev_iter [21, 32] 3000 _ _ _ _).trans rfl
def q821_32_3 (v0 : Int32) (v1 : Int32) (v2 : Int32) (x : Nat → Nat → Int32) (w : Nat → Nat → Bool) (f : Nat → Nat → Nat) : Int32 := (if (q81 12 x w f) = true then q821_32_4 (v2 + v1) 1 (v2 + v1) x w f else q821_32_4 (v2 + v1) 0 (v2 + v1) x w f)
theorem e821_32_3 {sc : pm_Sc} (d : Nat) (v0 : Int32) (v1 : Int32) (v2 : Int32) (x : Nat → Nat → Int32) (w : Nat → Nat → Bool) (f : Nat → Nat → Nat) : pm_ev (pm_call pm_Tf sc (d + 1)) sc 1 pm_c82 32 [(3, .inl 11), (2, .inl v0), (0, pm_r 67), (1, .inl 1)] [.inl v1, .inl v2] (pm_u x w f) = some (pm_g1 x w f (q821_32_3 v0 v1 v2 x w f)) := (s821_32_3_0 d v0 v1 v2 x w f).trans (((s821_32_3_1 d v0 v1 v2 x w f).trans ((pm_call1_of (z81 (d + 0) 12 x w f (by decide))).trans ((s821_32_3_2 d v0 v1 v2 x w f).trans (pm_iteG (g := (fun t => some (pm_g1 x w f t))) (fun _ => e821_32_4 d  (v2 + v1) 1 (v2 + v1) x w f) (fun _ => e821_32_4 d  (v2 + v1) 0 (v2 + v1) x w f))))))
theorem s821_32_2_0 {sc : pm_Sc} (d : Nat) (v0 : Int32) (v1 : Int32) (v2 : Int32) (x : Nat → Nat → Int32) (w : Nat → Nat → Bool) (f : Nat → Nat → Nat) : pm_ev (pm_call pm_Tf sc (d + 1)) sc 1 pm_c82 32 [(3, .inl 10), (2, .inl v0), (0, pm_r 67), (1, .inl 1)] [.inl v1, .inl v2] (pm_u x w f) = pm_ev (pm_call pm_Tf sc (d + 1)) sc 1 pm_c82 21 [(3, .inl 11), (2, .inl (v2 + v1)), (0, pm_r 67), (1, .inl 1)] [.inl 11, pm_r 67, .inl (v2 + v1)] (pm_u x w f) := by
  exact (pm_ev_iter [21, 32] 3000 _ _ _ _).trans rfl
theorem s821_32_2_1 {sc : pm_Sc} (d : Nat) (v0 : Int32) (v1 : Int32) (v2 : Int32) (x : Nat → Nat → Int32) (w : Nat → Nat → Bool) (f : Nat → Nat → Nat) : pm_ev (pm_call pm_Tf sc (d + 1)) sc 1 pm_c82 21 [(3, .inl 11), (2, .inl (v2 + v1)), (0, pm_r 67), (1, .inl 1)] [.inl 11, pm_r 67, .inl (v2 + v1)] (pm_u x w f) = pm_call1 (fun v u => pm_ev (pm_call pm_Tf sc (d + 1)) sc 1 pm_c82 24 [(3, .inl 11), (2, .inl (v2 + v1)), (0, pm_r 67), (1, .inl 1)] (v.toList ++ [.inl (v2 + v1)]) u) none ((pm_call pm_Tf sc (d + 1)) 81 [pm_r 67, .inl 11] (pm_u x w f)) := by
  exact (pm_ev_step _ _ _ _).trans rfl
theorem s821_32_2_2 {sc : pm_Sc} (d : Nat) (v0 : Int32) (v1 : Int32) (v2 : Int32) (x : Nat → Nat → Int32) (w : Nat → Nat → Bool) (f : Nat → Nat → Nat) : pm_ev (pm_call pm_Tf sc (d + 1)) sc 1 pm_c82 24 [(3, .inl 11), (2, .inl (v2 + v1)), (0, pm_r 67), (1, .inl 1)] [pm_b (q81 11 x w f), .inl (v2 + v1)] (pm_u x w f) = (if (q81 11 x w f) = true then pm_ev (pm_call pm_Tf sc (d + 1)) sc 1 pm_c82 32 [(3, .inl 11), (2, .inl (v2 + v1)), (0, pm_r 67), (1, .inl 1)] [.inl 1, .inl (v2 + v1)] (pm_u x w f) else pm_ev (pm_call pm_Tf sc (d + 1)) sc 1 pm_c82 32 [(3, .inl 11), (2, .inl (v2 + v1)), (0, pm_r 67), (1, .inl 1)] [.inl 0, .inl (v2 + v1)] (pm_u x w f)) := by
  exact (pm_ev_iter [21, 32] 3000 _ _ _ _).trans rfl
def q821_32_2 (v0 : Int32) (v1 : Int32) (v2 : Int32) (x : Nat → Nat → Int32) (w : Nat → Nat → Bool) (f : Nat → Nat → Nat) : Int32 := (if (q81 11 x w f) = true then q821_32_3 (v2 + v1) 1 (v2 + v1) x w f else q821_32_3 (v2 + v1) 0 (v2 + v1) x w f)
theorem e821_32_2 {sc : pm_Sc} (d : Nat) (v0 : Int32) (v1 : Int32) (v2 : Int32) (x : Nat → Nat → Int32) (w : Nat → Nat → Bool) (f : Nat → Nat → Nat) : pm_ev (pm_call pm_Tf sc (d + 1)) sc 1 pm_c82 32 [(3, .inl 10), (2, .inl v0), (0, pm_r 67), (1, .inl 1)] [.inl v1, .inl v2] (pm_u x w f) = some (pm_g1 x w f (q821_32_2 v0 v1 v2 x w f)) := (s821_32_2_0 d v0 v1 v2 x w f).trans (((s821_32_2_1 d v0 v1 v2 x w f).trans ((pm_call1_of (z81 (d + 0) 11 x w f (by decide))).trans ((s821_32_2_2 d v0 v1 v2 x w f).trans (pm_iteG (g := (fun t => some (pm_g1 x w f t))) (fun _ => e821_32_3 d  (v2 + v1) 1 (v2 + v1) x w f) (fun _ => e821_32_3 d  (v2 + v1) 0 (v2 + v1) x w f))))))
theorem s821_32_1_0 {sc : pm_Sc} (d : Nat) (v0 : Int32) (v1 : Int32) (v2 : Int32) (x : Nat → Nat → Int32) (w : Nat → Nat → Bool) (f : Nat → Nat → Nat) : pm_ev (pm_call pm_Tf sc (d + 1)) sc 1 pm_c82 32 [(3, .inl 9), (2, .inl v0), (0, pm_r 67), (1, .inl 1)] [.inl v1, .inl v2] (pm_u x w f) = pm_ev (pm_call pm_Tf sc (d + 1)) sc 1 pm_c82 21 [(3, .inl 10), (2, .inl (v2 + v1)), (0, pm_r 67), (1, .inl 1)] [.inl 10, pm_r 67, .inl (v2 + v1)] (pm_u x w f) := by
  exact (pm_ev_iter [21, 32] 3000 _ _ _ _).trans rfl
theorem s821_32_1_1 {sc : pm_Sc} (d : Nat) (v0 : Int32) (v1 : Int32) (v2 : Int32) (x : Nat → Nat → Int32) (w : Nat → Nat → Bool) (f : Nat → Nat → Nat) : pm_ev (pm_call pm_Tf sc (d + 1)) sc 1 pm_c82 21 [(3, .inl 10), (2, .inl (v2 + v1)), (0, pm_r 67), (1, .inl 1)] [.inl 10, pm_r 67, .inl (v2 + v1)] (pm_u x w f) = pm_call1 (fun v u => pm_ev (pm_call pm_Tf sc (d + 1)) sc 1 pm_c82 24 [(3, .inl 10), (2, .inl (v2 + v1)), (0, pm_r 67), (1, .inl 1)] (v.toList ++ [.inl (v2 + v1)]) u) none ((pm_call pm_Tf sc (d + 1)) 81 [pm_r 67, .inl 10] (pm_u x w f)) := by
  exact (pm_ev_step _ _ _ _).trans rfl
theorem s821_32_1_2 {sc : pm_Sc} (d : Nat) (v0 : Int32) (v1 : Int32) (v2 : Int32) (x : Nat → Nat → Int32) (w : Nat → Nat → Bool) (f : Nat → Nat → Nat) : pm_ev (pm_call pm_Tf sc (d + 1)) sc 1 pm_c82 24 [(3, .inl 10), (2, .inl (v2 + v1)), (0, pm_r 67), (1, .inl 1)] [pm_b (q81 10 x w f), .inl (v2 + v1)] (pm_u x w f) = (if (q81 10 x w f) = true then pm_ev (pm_call pm_Tf sc (d + 1)) sc 1 pm_c82 32 [(3, .inl 10), (2, .inl (v2 + v1)), (0, pm_r 67), (1, .inl 1)] [.inl 1, .inl (v2 + v1)] (pm_u x w f) else pm_ev (pm_call pm_Tf sc (d + 1)) sc 1 pm_c82 32 [(3, .inl 10), (2, .inl (v2 + v1)), (0, pm_r 67), (1, .inl 1)] [.inl 0, .inl (v2 + v1)] (pm_u x w f)) := by
  exact (pm_ev_iter [21, 32] 3000 _ _ _ _).trans rfl
def q821_32_1 (v0 : Int32) (v1 : Int32) (v2 : Int32) (x : Nat → Nat → Int32) (w : Nat → Nat → Bool) (f : Nat → Nat → Nat) : Int32 := (if (q81 10 x w f) = true then q821_32_2 (v2 + v1) 1 (v2 + v1) x w f else q821_32_2 (v2 + v1) 0 (v2 + v1) x w f)
theorem e821_32_1 {sc : pm_Sc} (d : Nat) (v0 : Int32) (v1 : Int32) (v2 : Int32) (x : Nat → Nat → Int32) (w : Nat → Nat → Bool) (f : Nat → Nat → Nat) : pm_ev (pm_call pm_Tf sc (d + 1)) sc 1 pm_c82 32 [(3, .inl 9), (2, .inl v0), (0, pm_r 67), (1, .inl 1)] [.inl v1, .inl v2] (pm_u x w f) = some (pm_g1 x w f (q821_32_1 v0 v1 v2 x w f)) := (s821_32_1_0 d v0 v1 v2 x w f).trans (((s821_32_1_1 d v0 v1 v2 x w f).trans ((pm_call1_of (z81 (d + 0) 10 x w f (by decide))).trans ((s821_32_1_2 d v0 v1 v2 x w f).trans (pm_iteG (g := (fun t => some (pm_g1 x w f t))) (fun _ => e821_32_2 d  (v2 + v1) 1 (v2 + v1) x w f) (fun _ => e821_32_2 d  (v2 + v1) 0 (v2 + v1) x w f))))))
theorem s821_32_0 {sc : pm_Sc} (d : Nat) (v0 : Int32) (x : Nat → Nat → Int32) (w : Nat → Nat → Bool) (f : Nat → Nat → Nat) : pm_ev (pm_call pm_Tf sc (d + 1)) sc 1 pm_c82 32 [(3, .inl 8), (2, .inl 0), (0, pm_r 67), (1, .inl 1)] [.inl v0, .inl 0] (pm_u x w f) = pm_ev (pm_call pm_Tf sc (d + 1)) sc 1 pm_c82 21 [(3, .inl 9), (2, .inl ((0 : Int32) + v0)), (0, pm_r 67), (1, .inl 1)] [.inl 9, pm_r 67, .inl ((0 : Int32) + v0)] (pm_u x w f) := by
  exact (pm_ev_iter [21, 32] 3000 _ _ _ _).trans rfl
theorem s821_32_1 {sc : pm_Sc} (d : Nat) (v0 : Int32) (x : Nat → Nat → Int32) (w : Nat → Nat → Bool) (f : Nat → Nat → Nat) : pm_ev (pm_call pm_Tf sc (d + 1)) sc 1 pm_c82 21 [(3, .inl 9), (2, .inl ((0 : Int32) + v0)), (0, pm_r 67), (1, .inl 1)] [.inl 9, pm_r 67, .inl ((0 : Int32) + v0)] (pm_u x w f) = pm_call1 (fun v u => pm_ev (pm_call pm_Tf sc (d + 1)) sc 1 pm_c82 24 [(3, .inl 9), (2, .inl ((0 : Int32) + v0)), (0, pm_r 67), (1, .inl 1)] (v.toList ++ [.inl ((0 : Int32) + v0)]) u) none ((pm_call pm_Tf sc (d + 1)) 81 [pm_r 67, .inl 9] (pm_u x w f)) := by
  exact (pm_ev_step _ _ _ _).trans rfl
theorem s821_32_2 {sc : pm_Sc} (d : Nat) (v0 : Int32) (x : Nat → Nat → Int32) (w : Nat → Nat → Bool) (f : Nat → Nat → Nat) : pm_ev (pm_call pm_Tf sc (d + 1)) sc 1 pm_c82 24 [(3, .inl 9), (2, .inl ((0 : Int32) + v0)), (0, pm_r 67), (1, .inl 1)] [pm_b (q81 9 x w f), .inl ((0 : Int32) + v0)] (pm_u x w f) = (if (q81 9 x w f) = true then pm_ev (pm_call pm_Tf sc (d + 1)) sc 1 pm_c82 32 [(3, .inl 9), (2, .inl ((0 : Int32) + v0)), (0, pm_r 67), (1, .inl 1)] [.inl 1, .inl ((0 : Int32) + v0)] (pm_u x w f) else pm_ev (pm_call pm_Tf sc (d + 1)) sc 1 pm_c82 32 [(3, .inl 9), (2, .inl ((0 : Int32) + v0)), (0, pm_r 67), (1, .inl 1)] [.inl 0, .inl ((0 : Int32) + v0)] (pm_u x w f)) := by
  exact (pm_ev_iter [21, 32] 3000 _ _ _ _).trans rfl
def q821_32 (v0 : Int32) (x : Nat → Nat → Int32) (w : Nat → Nat → Bool) (f : Nat → Nat → Nat) : Int32 := (if (q81 9 x w f) = true then q821_32_1 ((0 : Int32) + v0) 1 ((0 : Int32) + v0) x w f else q821_32_1 ((0 : Int32) + v0) 0 ((0 : Int32) + v0) x w f)
theorem e821_32 {sc : pm_Sc} (d : Nat) (v0 : Int32) (x : Nat → Nat → Int32) (w : Nat → Nat → Bool) (f : Nat → Nat → Nat) : pm_ev (pm_call pm_Tf sc (d + 1)) sc 1 pm_c82 32 [(3, .inl 8), (2, .inl 0), (0, pm_r 67), (1, .inl 1)] [.inl v0, .inl 0] (pm_u x w f) = some (pm_g1 x w f (q821_32 v0 x w f)) := (s821_32_0 d v0 x w f).trans (((s821_32_1 d v0 x w f).trans ((pm_call1_of (z81 (d + 0) 9 x w f (by decide))).trans ((s821_32_2 d v0 x w f).trans (pm_iteG (g := (fun t => some (pm_g1 x w f t))) (fun _ => e821_32_1 d  ((0 : Int32) + v0) 1 ((0 : Int32) + v0) x w f) (fun _ => e821_32_1 d  ((0 : Int32) + v0) 0 ((0 : Int32) + v0) x w f))))))
theorem s821_0 {sc : pm_Sc} (d : Nat)  (x : Nat → Nat → Int32) (w : Nat → Nat → Bool) (f : Nat → Nat → Nat) : pm_ev (pm_call pm_Tf sc (d + 1)) sc 1 pm_c82 0 [(0, pm_r 67), (1, .inl 1)] [] (pm_u x w f) = pm_ev (pm_call pm_Tf sc (d + 1)) sc 1 pm_c82 21 [(3, .inl 8), (2, .inl 0), (0, pm_r 67), (1, .inl 1)] [.inl 8, pm_r 67, .inl 0] (pm_u x w f) := by
  exact (pm_ev_iter [21, 32] 3000 _ _ _ _).trans rfl
theorem s821_1 {sc : pm_Sc} (d : Nat)  (x : Nat → Nat → Int32) (w : Nat → Nat → Bool) (f : Nat → Nat → Nat) : pm_ev (pm_call pm_Tf sc (d + 1)) sc 1 pm_c82 21 [(3, .inl 8), (2, .inl 0), (0, pm_r 67), (1, .inl 1)] [.inl 8, pm_r 67, .inl 0] (pm_u x w f) = pm_call1 (fun v u => pm_ev (pm_call pm_Tf sc (d + 1)) sc 1 pm_c82 24 [(3, .inl 8), (2, .inl 0), (0, pm_r 67), (1, .inl 1)] (v.toList ++ [.inl 0]) u) none ((pm_call pm_Tf sc (d + 1)) 81 [pm_r 67, .inl 8] (pm_u x w f)) := by
  exact (pm_ev_step _ _ _ _).trans rfl
theorem s821_2 {sc : pm_Sc} (d : Nat)  (x : Nat → Nat → Int32) (w : Nat → Nat → Bool) (f : Nat → Nat → Nat) : pm_ev (pm_call pm_Tf sc (d + 1)) sc 1 pm_c82 24 [(3, .inl 8), (2, .inl 0), (0, pm_r 67), (1, .inl 1)] [pm_b (q81 8 x w f), .inl 0] (pm_u x w f) = (if (q81 8 x w f) = true then pm_ev (pm_call pm_Tf sc (d + 1)) sc 1 pm_c82 32 [(3, .inl 8), (2, .inl 0), (0, pm_r 67), (1, .inl 1)] [.inl 1, .inl 0] (pm_u x w f) else pm_ev (pm_call pm_Tf sc (d + 1)) sc 1 pm_c82 32 [(3, .inl 8), (2, .inl 0), (0, pm_r 67), (1, .inl 1)] [.inl 0, .inl 0] (pm_u x w f)) := by
  exact (pm_ev_iter [21, 32] 3000 _ _ _ _).trans rfl
def q821 (x : Nat → Nat → Int32) (w : Nat → Nat → Bool) (f : Nat → Nat → Nat) : Int32 := (if (q81 8 x w f) = true then q821_32 1 x w f else q821_32 0 x w f)
theorem e821 {sc : pm_Sc} (d : Nat)  (x : Nat → Nat → Int32) (w : Nat → Nat → Bool) (f : Nat → Nat → Nat) : pm_ev (pm_call pm_Tf sc (d + 1)) sc 1 pm_c82 0 [(0, pm_r 67), (1, .inl 1)] [] (pm_u x w f) = some (pm_g1 x w f (q821 x w f)) := (s821_0 d  x w f).trans (((s821_1 d  x w f).trans ((pm_call1_of (z81 (d + 0) 8 x w f (by decide))).trans ((s821_2 d  x w f).trans (pm_iteG (g := (fun t => some (pm_g1 x w f t))) (fun _ => e821_32 d  1 x w f) (fun _ => e821_32 d  0 x w f))))))
theorem z821 {sc : pm_Sc} (d : Nat) (x : Nat → Nat → Int32) (w : Nat → Nat → Bool) (f : Nat → Nat → Nat) : pm_call pm_Tf sc (d + 2) 82 [pm_r 67, .inl 1] (pm_u x w f) = some (pm_g1 x w f (q821 x w f)) := e821 d x w f
theorem s830_0 {sc : pm_Sc} (d : Nat)  (x : Nat → Nat → Int32) (w : Nat → Nat → Bool) (f : Nat → Nat → Nat) : pm_ev (pm_call pm_Tf sc (d + 2)) sc 2 pm_c83 0 [(0, pm_r 67), (1, .inl 0)] [] (pm_u x w f) = pm_ev (pm_call pm_Tf sc (d + 2)) sc 2 pm_c83 5 [(0, pm_r 67), (1, .inl 0)] [pm_r 67] (pm_u x w f) := by
  exact (pm_ev_iter [5, 13] 3000 _ _ _ _).trans rfl
theorem s830_1 {sc : pm_Sc} (d : Nat)  (x : Nat → Nat → Int32) (w : Nat → Nat → Bool) (f : Nat → Nat → Nat) : pm_ev (pm_call pm_Tf sc (d + 2)) sc 2 pm_c83 5 [(0, pm_r 67), (1, .inl 0)] [pm_r 67] (pm_u x w f) = pm_call1 (fun v u => pm_ev (pm_call pm_Tf sc (d + 2)) sc 2 pm_c83 8 [(0, pm_r 67), (1, .inl 0)] (v.toList ++ []) u) none ((pm_call pm_Tf sc (d + 2)) 78 [pm_r 67] (pm_u x w f)) := by
  exact (pm_ev_step _ _ _ _).trans rfl
theorem s830_2 {sc : pm_Sc} (d : Nat)  (x : Nat → Nat → Int32) (w : Nat → Nat → Bool) (f : Nat → Nat → Nat) : pm_ev (pm_call pm_Tf sc (d + 2)) sc 2 pm_c83 8 [(0, pm_r 67), (1, .inl 0)] [pm_b (q78 x w f)] (pm_u x w f) = some (some (pm_b (q78 x w f)), pm_u x w f) := by
  exact (pm_ev_iter [5, 13] 3000 _ _ _ _).trans rfl
def q830 (x : Nat → Nat → Int32) (w : Nat → Nat → Bool) (f : Nat → Nat → Nat) : Bool := (q78 x w f)
theorem e830 {sc : pm_Sc} (d : Nat)  (x : Nat → Nat → Int32) (w : Nat → Nat → Bool) (f : Nat → Nat → Nat) : pm_ev (pm_call pm_Tf sc (d + 2)) sc 2 pm_c83 0 [(0, pm_r 67), (1, .inl 0)] [] (pm_u x w f) = some (pm_g2 x w f (q830 x w f)) := (s830_0 d  x w f).trans (((s830_1 d  x w f).trans ((pm_call1_of (z78 (d + 2) x w f)).trans ((s830_2 d  x w f).trans (rfl)))))
theorem z830 {sc : pm_Sc} (d : Nat) (x : Nat → Nat → Int32) (w : Nat → Nat → Bool) (f : Nat → Nat → Nat) : pm_call pm_Tf sc (d + 3) 83 [pm_r 67, .inl 0] (pm_u x w f) = some (pm_g2 x w f (q830 x w f)) := e830 d x w f
theorem s840_32_7_0 {c : Nat → List pm_V → pm_S → Option pm_Rs} {sc : pm_Sc} (v0 : Int32) (v1 : Int32) (v2 : Int32) (x : Nat → Nat → Int32) (w : Nat → Nat → Bool) (f : Nat → Nat → Nat) : pm_ev c sc 1 pm_c84 32 [(3, .inl 7), (2, .inl v0), (0, pm_r 67), (1, .inl 0)] [.inl v1, .inl v2] (pm_u x w f) = some (some (.inl (v2 + v1)), pm_u x w f) := by
  exact (pm_ev_iter [32] 3000 _ _ _ _).trans rfl
def q840_32_7 (v0 : Int32) (v1 : Int32) (v2 : Int32) (x : Nat → Nat → Int32) (w : Nat → Nat → Bool) (f : Nat → Nat → Nat) : Int32 := v2 + v1
theorem e840_32_7 {c : Nat → List pm_V → pm_S → Option pm_Rs} {sc : pm_Sc} (v0 : Int32) (v1 : Int32) (v2 : Int32) (x : Nat → Nat → Int32) (w : Nat → Nat → Bool) (f : Nat → Nat → Nat) : pm_ev c sc 1 pm_c84 32 [(3, .inl 7), (2, .inl v0), (0, pm_r 67), (1, .inl 0)] [.inl v1, .inl v2] (pm_u x w f) = some (pm_g1 x w f (q840_32_7 v0 v1 v2 x w f)) := (s840_32_7_0 v0 v1 v2 x w f).trans (rfl)
theorem s840_32_6_0 {c : Nat → List pm_V → pm_S → Option pm_Rs} {sc : pm_Sc} (v0 : Int32) (v1 : Int32) (v2 : Int32) (x : Nat → Nat → Int32) (w : Nat → Nat → Bool) (f : Nat → Nat → Nat) : pm_ev c sc 1 pm_c84 32 [(3, .inl 6), (2, .inl v0), (0, pm_r 67), (1, .inl 0)] [.inl v1, .inl v2] (pm_u x w f) = (if (w 77 7) = true then pm_ev c sc 1 pm_c84 32 [(3, .inl 7), (2, .inl (v2 + v1)), (0, pm_r 67), (1, .inl 0)] [.inl 128, .inl (v2 + v1)] (pm_u x w f) else pm_ev c sc 1 pm_c84 32 [(3, .inl 7), (2, .inl (v2 + v1)), (0, pm_r 67), (1, .inl 0)] [.inl 0, .inl (v2 + v1)] (pm_u x w f)) := by
  exact (pm_ev_iter [32] 3000 _ _ _ _).trans rfl
def q840_32_6 (v0 : Int32) (v1 : Int32) (v2 : Int32) (x : Nat → Nat → Int32) (w : Nat → Nat → Bool) (f : Nat → Nat → Nat) : Int32 := (if (w 77 7) = true then q840_32_7 (v2 + v1) 128 (v2 + v1) x w f else q840_32_7 (v2 + v1) 0 (v2 + v1) x w f)
theorem e840_32_6 {c : Nat → List pm_V → pm_S → Option pm_Rs} {sc : pm_Sc} (v0 : Int32) (v1 : Int32) (v2 : Int32) (x : Nat → Nat → Int32) (w : Nat → Nat → Bool) (f : Nat → Nat → Nat) : pm_ev c sc 1 pm_c84 32 [(3, .inl 6), (2, .inl v0), (0, pm_r 67), (1, .inl 0)] [.inl v1, .inl v2] (pm_u x w f) = some (pm_g1 x w f (q840_32_6 v0 v1 v2 x w f)) := (s840_32_6_0 v0 v1 v2 x w f).trans (pm_iteG (g := (fun t => some (pm_g1 x w f t))) (fun _ => e840_32_7  (v2 + v1) 128 (v2 + v1) x w f) (fun _ => e840_32_7  (v2 + v1) 0 (v2 + v1) x w f))
theorem s840_32_5_0 {c : Nat → List pm_V → pm_S → Option pm_Rs} {sc : pm_Sc} (v0 : Int32) (v1 : Int32) (v2 : Int32) (x : Nat → Nat → Int32) (w : Nat → Nat → Bool) (f : Nat → Nat → Nat) : pm_ev c sc 1 pm_c84 32 [(3, .inl 5), (2, .inl v0), (0, pm_r 67), (1, .inl 0)] [.inl v1, .inl v2] (pm_u x w f) = (if (w 77 6) = true then pm_ev c sc 1 pm_c84 32 [(3, .inl 6), (2, .inl (v2 + v1)), (0, pm_r 67), (1, .inl 0)] [.inl 64, .inl (v2 + v1)] (pm_u x w f) else pm_ev c sc 1 pm_c84 32 [(3, .inl 6), (2, .inl (v2 + v1)), (0, pm_r 67), (1, .inl 0)] [.inl 0, .inl (v2 + v1)] (pm_u x w f)) := by
  exact (pm_ev_iter [32] 3000 _ _ _ _).trans rfl
def q840_32_5 (v0 : Int32) (v1 : Int32) (v2 : Int32) (x : Nat → Nat → Int32) (w : Nat → Nat → Bool) (f : Nat → Nat → Nat) : Int32 := (if (w 77 6) = true then q840_32_6 (v2 + v1) 64 (v2 + v1) x w f else q840_32_6 (v2 + v1) 0 (v2 + v1) x w f)
theorem e840_32_5 {c : Nat → List pm_V → pm_S → Option pm_Rs} {sc : pm_Sc} (v0 : Int32) (v1 : Int32) (v2 : Int32) (x : Nat → Nat → Int32) (w : Nat → Nat → Bool) (f : Nat → Nat → Nat) : pm_ev c sc 1 pm_c84 32 [(3, .inl 5), (2, .inl v0), (0, pm_r 67), (1, .inl 0)] [.inl v1, .inl v2] (pm_u x w f) = some (pm_g1 x w f (q840_32_5 v0 v1 v2 x w f)) := (s840_32_5_0 v0 v1 v2 x w f).trans (pm_iteG (g := (fun t => some (pm_g1 x w f t))) (fun _ => e840_32_6  (v2 + v1) 64 (v2 + v1) x w f) (fun _ => e840_32_6  (v2 + v1) 0 (v2 + v1) x w f))
theorem s840_32_4_0 {c : Nat → List pm_V → pm_S → Option pm_Rs} {sc : pm_Sc} (v0 : Int32) (v1 : Int32) (v2 : Int32) (x : Nat → Nat → Int32) (w : Nat → Nat → Bool) (f : Nat → Nat → Nat) : pm_ev c sc 1 pm_c84 32 [(3, .inl 4), (2, .inl v0), (0, pm_r 67), (1, .inl 0)] [.inl v1, .inl v2] (pm_u x w f) = (if (w 77 5) = true then pm_ev c sc 1 pm_c84 32 [(3, .inl 5), (2, .inl (v2 + v1)), (0, pm_r 67), (1, .inl 0)] [.inl 32, .inl (v2 + v1)] (pm_u x w f) else pm_ev c sc 1 pm_c84 32 [(3, .inl 5), (2, .inl (v2 + v1)), (0, pm_r 67), (1, .inl 0)] [.inl 0, .inl (v2 + v1)] (pm_u x w f)) := by
  exact (pm_ev_iter [32] 3000 _ _ _ _).trans rfl
def q840_32_4 (v0 : Int32) (v1 : Int32) (v2 : Int32) (x : Nat → Nat → Int32) (w : Nat → Nat → Bool) (f : Nat → Nat → Nat) : Int32 := (if (w 77 5) = true then q840_32_5 (v2 + v1) 32 (v2 + v1) x w f else q840_32_5 (v2 + v1) 0 (v2 + v1) x w f)
theorem e840_32_4 {c : Nat → List pm_V → pm_S → Option pm_Rs} {sc : pm_Sc} (v0 : Int32) (v1 : Int32) (v2 : Int32) (x : Nat → Nat → Int32) (w : Nat → Nat → Bool) (f : Nat → Nat → Nat) : pm_ev c sc 1 pm_c84 32 [(3, .inl 4), (2, .inl v0), (0, pm_r 67), (1, .inl 0)] [.inl v1, .inl v2] (pm_u x w f) = some (pm_g1 x w f (q840_32_4 v0 v1 v2 x w f)) := (s840_32_4_0 v0 v1 v2 x w f).trans (pm_iteG (g := (fun t => some (pm_g1 x w f t))) (fun _ => e840_32_5  (v2 + v1) 32 (v2 + v1) x w f) (fun _ => e840_32_5  (v2 + v1) 0 (v2 + v1) x w f))
theorem s840_32_3_0 {c : Nat → List pm_V → pm_S → Option pm_Rs} {sc : pm_Sc} (v0 : Int32) (v1 : Int32) (v2 : Int32) (x : Nat → Nat → Int32) (w : Nat → Nat → Bool) (f : Nat → Nat → Nat) : pm_ev c sc 1 pm_c84 32 [(3, .inl 3), (2, .inl v0), (0, pm_r 67), (1, .inl 0)] [.inl v1, .inl v2] (pm_u x w f) = (if (w 77 4) = true then pm_ev c sc 1 pm_c84 32 [(3, .inl 4), (2, .inl (v2 + v1)), (0, pm_r 67), (1, .inl 0)] [.inl 16, .inl (v2 + v1)] (pm_u x w f) else pm_ev c sc 1 pm_c84 32 [(3, .inl 4), (2, .inl (v2 + v1)), (0, pm_r 67), (1, .inl 0)] [.inl 0, .inl (v2 + v1)] (pm_u x w f)) := by
  exact (pm_ev_iter [32] 3000 _ _ _ _).trans rfl
def q840_32_3 (v0 : Int32) (v1 : Int32) (v2 : Int32) (x : Nat → Nat → Int32) (w : Nat → Nat → Bool) (f : Nat → Nat → Nat) : Int32 := (if (w 77 4) = true then q840_32_4 (v2 + v1) 16 (v2 + v1) x w f else q840_32_4 (v2 + v1) 0 (v2 + v1) x w f)
theorem e840_32_3 {c : Nat → List pm_V → pm_S → Option pm_Rs} {sc : pm_Sc} (v0 : Int32) (v1 : Int32) (v2 : Int32) (x : Nat → Nat → Int32) (w : Nat → Nat → Bool) (f : Nat → Nat → Nat) : pm_ev c sc 1 pm_c84 32 [(3, .inl 3), (2, .inl v0), (0, pm_r 67), (1, .inl 0)] [.inl v1, .inl v2] (pm_u x w f) = some (pm_g1 x w f (q840_32_3 v0 v1 v2 x w f)) := (s840_32_3_0 v0 v1 v2 x w f).trans (pm_iteG (g := (fun t => some (pm_g1 x w f t))) (fun _ => e840_32_4  (v2 + v1) 16 (v2 + v1) x w f) (fun _ => e840_32_4  (v2 + v1) 0 (v2 + v1) x w f))
theorem s840_32_2_0 {c : Nat → List pm_V → pm_S → Option pm_Rs} {sc : pm_Sc} (v0 : Int32) (v1 : Int32) (v2 : Int32) (x : Nat → Nat → Int32) (w : Nat → Nat → Bool) (f : Nat → Nat → Nat) : pm_ev c sc 1 pm_c84 32 [(3, .inl 2), (2, .inl v0), (0, pm_r 67), (1, .inl 0)] [.inl v1, .inl v2] (pm_u x w f) = (if (w 77 3) = true then pm_ev c sc 1 pm_c84 32 [(3, .inl 3), (2, .inl (v2 + v1)), (0, pm_r 67), (1, .inl 0)] [.inl 8, .inl (v2 + v1)] (pm_u x w f) else pm_ev c sc 1 pm_c84 32 [(3, .inl 3), (2, .inl (v2 + v1)), (0, pm_r 67), (1, .inl 0)] [.inl 0, .inl (v2 + v1)] (pm_u x w f)) := by
  exact (pm_ev_iter [32] 3000 _ _ _ _).trans rfl
def q840_32_2 (v0 : Int32) (v1 : Int32) (v2 : Int32) (x : Nat → Nat → Int32) (w : Nat → Nat → Bool) (f : Nat → Nat → Nat) : Int32 := (if (w 77 3) = true then q840_32_3 (v2 + v1) 8 (v2 + v1) x w f else q840_32_3 (v2 + v1) 0 (v2 + v1) x w f)
theorem e840_32_2 {c : Nat → List pm_V → pm_S → Option pm_Rs} {sc : pm_Sc} (v0 : Int32) (v1 : Int32) (v2 : Int32) (x : Nat → Nat → Int32) (w : Nat → Nat → Bool) (f : Nat → Nat → Nat) : pm_ev c sc 1 pm_c84 32 [(3, .inl 2), (2, .inl v0), (0, pm_r 67), (1, .inl 0)] [.inl v1, .inl v2] (pm_u x w f) = some (pm_g1 x w f (q840_32_2 v0 v1 v2 x w f)) := (s840_32_2_0 v0 v1 v2 x w f).trans (pm_iteG (g := (fun t => some (pm_g1 x w f t))) (fun _ => e840_32_3  (v2 + v1) 8 (v2 + v1) x w f) (fun _ => e840_32_3  (v2 + v1) 0 (v2 + v1) x w f))
theorem s840_32_1_0 {c : Nat → List pm_V → pm_S → Option pm_Rs} {sc : pm_Sc} (v0 : Int32) (v1 : Int32) (v2 : Int32) (x : Nat → Nat → Int32) (w : Nat → Nat → Bool) (f : Nat → Nat → Nat) : pm_ev c sc 1 pm_c84 32 [(3, .inl 1), (2, .inl v0), (0, pm_r 67), (1, .inl 0)] [.inl v1, .inl v2] (pm_u x w f) = (if (w 77 2) = true then pm_ev c sc 1 pm_c84 32 [(3, .inl 2), (2, .inl (v2 + v1)), (0, pm_r 67), (1, .inl 0)] [.inl 4, .inl (v2 + v1)] (pm_u x w f) else pm_ev c sc 1 pm_c84 32 [(3, .inl 2), (2, .inl (v2 + v1)), (0, pm_r 67), (1, .inl 0)] [.inl 0, .inl (v2 + v1)] (pm_u x w f)) := by
  exact (pm_ev_iter [32] 3000 _ _ _ _).trans rfl
def q840_32_1 (v0 : Int32) (v1 : Int32) (v2 : Int32) (x : Nat → Nat → Int32) (w : Nat → Nat → Bool) (f : Nat → Nat → Nat) : Int32 := (if (w 77 2) = true then q840_32_2 (v2 + v1) 4 (v2 + v1) x w f else q840_32_2 (v2 + v1) 0 (v2 + v1) x w f)
theorem e840_32_1 {c : Nat → List pm_V → pm_S → Option pm_Rs} {sc : pm_Sc} (v0 : Int32) (v1 : Int32) (v2 : Int32) (x : Nat → Nat → Int32) (w : Nat → Nat → Bool) (f : Nat → Nat → Nat) : pm_ev c sc 1 pm_c84 32 [(3, .inl 1), (2, .inl v0), (0, pm_r 67), (1, .inl 0)] [.inl v1, .inl v2] (pm_u x w f) = some (pm_g1 x w f (q840_32_1 v0 v1 v2 x w f)) := (s840_32_1_0 v0 v1 v2 x w f).trans (pm_iteG (g := (fun t => some (pm_g1 x w f t))) (fun _ => e840_32_2  (v2 + v1) 4 (v2 + v1) x w f) (fun _ => e840_32_2  (v2 + v1) 0 (v2 + v1) x w f))
theorem s840_32_0 {c : Nat → List pm_V → pm_S → Option pm_Rs} {sc : pm_Sc} (v0 : Int32) (x : Nat → Nat → Int32) (w : Nat → Nat → Bool) (f : Nat → Nat → Nat) : pm_ev c sc 1 pm_c84 32 [(3, .inl 0), (2, .inl 0), (0, pm_r 67), (1, .inl 0)] [.inl v0, .inl 0] (pm_u x w f) = (if (w 77 1) = true then pm_ev c sc 1 pm_c84 32 [(3, .inl 1), (2, .inl ((0 : Int32) + v0)), (0, pm_r 67), (1, .inl 0)] [.inl 2, .inl ((0 : Int32) + v0)] (pm_u x w f) else pm_ev c sc 1 pm_c84 32 [(3, .inl 1), (2, .inl ((0 : Int32) + v0)), (0, pm_r 67), (1, .inl 0)] [.inl 0, .inl ((0 : Int32) + v0)] (pm_u x w f)) := by
  exact (pm_ev_iter [32] 3000 _ _ _ _).trans rfl
def q840_32 (v0 : Int32) (x : Nat → Nat → Int32) (w : Nat → Nat → Bool) (f : Nat → Nat → Nat) : Int32 := (if (w 77 1) = true then q840_32_1 ((0 : Int32) + v0) 2 ((0 : Int32) + v0) x w f else q840_32_1 ((0 : Int32) + v0) 0 ((0 : Int32) + v0) x w f)
theorem e840_32 {c : Nat → List pm_V → pm_S → Option pm_Rs} {sc : pm_Sc} (v0 : Int32) (x : Nat → Nat → Int32) (w : Nat → Nat → Bool) (f : Nat → Nat → Nat) : pm_ev c sc 1 pm_c84 32 [(3, .inl 0), (2, .inl 0), (0, pm_r 67), (1, .inl 0)] [.inl v0, .inl 0] (pm_u x w f) = some (pm_g1 x w f (q840_32 v0 x w f)) := (s840_32_0 v0 x w f).trans (pm_iteG (g := (fun t => some (pm_g1 x w f t))) (fun _ => e840_32_1  ((0 : Int32) + v0) 2 ((0 : Int32) + v0) x w f) (fun _ => e840_32_1  ((0 : Int32) + v0) 0 ((0 : Int32) + v0) x w f))
theorem s840_0 {c : Nat → List pm_V → pm_S → Option pm_Rs} {sc : pm_Sc}  (x : Nat → Nat → Int32) (w : Nat → Nat → Bool) (f : Nat → Nat → Nat) : pm_ev c sc 1 pm_c84 0 [(0, pm_r 67), (1, .inl 0)] [] (pm_u x w f) = (if (w 77 0) = true then pm_ev c sc 1 pm_c84 32 [(3, .inl 0), (2, .inl 0), (0, pm_r 67), (1, .inl 0)] [.inl 1, .inl 0] (pm_u x w f) else pm_ev c sc 1 pm_c84 32 [(3, .inl 0), (2, .inl 0), (0, pm_r 67), (1, .inl 0)] [.inl 0, .inl 0] (pm_u x w f)) := by
  exact (pm_ev_iter [32] 3000 _ _ _ _).trans rfl
def q840 (x : Nat → Nat → Int32) (w : Nat → Nat → Bool) (f : Nat → Nat → Nat) : Int32 := (if (w 77 0) = true then q840_32 1 x w f else q840_32 0 x w f)
theorem e840 {c : Nat → List pm_V → pm_S → Option pm_Rs} {sc : pm_Sc}  (x : Nat → Nat → Int32) (w : Nat → Nat → Bool) (f : Nat → Nat → Nat) : pm_ev c sc 1 pm_c84 0 [(0, pm_r 67), (1, .inl 0)] [] (pm_u x w f) = some (pm_g1 x w f (q840 x w f)) := (s840_0  x w f).trans (pm_iteG (g := (fun t => some (pm_g1 x w f t))) (fun _ => e840_32  1 x w f) (fun _ => e840_32  0 x w f))
theorem z840 {sc : pm_Sc} (d : Nat) (x : Nat → Nat → Int32) (w : Nat → Nat → Bool) (f : Nat → Nat → Nat) : pm_call pm_Tf sc (d + 0) 84 [pm_r 67, .inl 0] (pm_u x w f) = some (pm_g1 x w f (q840 x w f)) := pm_call_0 (fun _ => e840 x w f) d
theorem s850_0 {sc : pm_Sc} (d : Nat)  (x : Nat → Nat → Int32) (w : Nat → Nat → Bool) (f : Nat → Nat → Nat) : pm_ev (pm_call pm_Tf sc (d + 1)) sc 2 pm_c85 0 [(0, pm_r 67), (1, .inl 0)] [] (pm_u x w f) = pm_ev (pm_call pm_Tf sc (d + 1)) sc 2 pm_c85 2 [(0, pm_r 67), (1, .inl 0)] [.inl 0, pm_r 67] (pm_u x w f) := by
  exact (pm_ev_iter [2, 18] 3000 _ _ _ _).trans rfl
theorem s850_1 {sc : pm_Sc} (d : Nat)  (x : Nat → Nat → Int32) (w : Nat → Nat → Bool) (f : Nat → Nat → Nat) : pm_ev (pm_call pm_Tf sc (d + 1)) sc 2 pm_c85 2 [(0, pm_r 67), (1, .inl 0)] [.inl 0, pm_r 67] (pm_u x w f) = pm_call1 (fun v u => pm_ev (pm_call pm_Tf sc (d + 1)) sc 2 pm_c85 5 [(0, pm_r 67), (1, .inl 0)] (v.toList ++ []) u) none ((pm_call pm_Tf sc (d + 1)) 76 [pm_r 67, .inl 0] (pm_u x w f)) := by
  exact (pm_ev_step _ _ _ _).trans rfl
theorem s850_2 {sc : pm_Sc} (d : Nat)  (x : Nat → Nat → Int32) (w : Nat → Nat → Bool) (f : Nat → Nat → Nat) : pm_ev (pm_call pm_Tf sc (d + 1)) sc 2 pm_c85 5 [(0, pm_r 67), (1, .inl 0)] [pm_b (q760 x w f)] (pm_u x w f) = (if (w 67 21) = true then pm_ev (pm_call pm_Tf sc (d + 1)) sc 2 pm_c85 18 [(2, pm_b (q760 x w f)), (0, pm_r 67), (1, .inl 0)] [pm_r 67] (pm_u x w f) else some (some (pm_b false), pm_u x w f)) := by
  exact (pm_ev_iter [2, 18] 3000 _ _ _ _).trans rfl
theorem s850_3 {sc : pm_Sc} (d : Nat)  (x : Nat → Nat → Int32) (w : Nat → Nat → Bool) (f : Nat → Nat → Nat) : pm_ev (pm_call pm_Tf sc (d + 1)) sc 2 pm_c85 18 [(2, pm_b (q760 x w f)), (0, pm_r 67), (1, .inl 0)] [pm_r 67] (pm_u x w f) = pm_call1 (fun v u => pm_ev (pm_call pm_Tf sc (d + 1)) sc 2 pm_c85 21 [(2, pm_b (q760 x w f)), (0, pm_r 67), (1, .inl 0)] (v.toList ++ []) u) none ((pm_call pm_Tf sc (d + 1)) 78 [pm_r 67] (pm_u x w f)) := by
  exact (pm_ev_step _ _ _ _).trans rfl
theorem s850_4 {sc : pm_Sc} (d : Nat)  (x : Nat → Nat → Int32) (w : Nat → Nat → Bool) (f : Nat → Nat → Nat) : pm_ev (pm_call pm_Tf sc (d + 1)) sc 2 pm_c85 21 [(2, pm_b (q760 x w f)), (0, pm_r 67), (1, .inl 0)] [pm_b (q78 x w f)] (pm_u x w f) = (if (q78 x w f) = true then (if (q760 x w f) = true then (if (x 73 2) = 1 then some (some (pm_b true), pm_u x w f) else some (some (pm_b false), pm_u x w f)) else some (some (pm_b false), pm_u x w f)) else some (some (pm_b false), pm_u x w f)) := by
  exact (pm_ev_iter [2, 18] 3000 _ _ _ _).trans rfl
def q850 (x : Nat → Nat → Int32) (w : Nat → Nat → Bool) (f : Nat → Nat → Nat) : Bool := (if (w 67 21) = true then (if (q78 x w f) = true then (if (q760 x w f) = true then (if (x 73 2) = 1 then true else false) else false) else false) else false)
theorem e850 {sc : pm_Sc} (d : Nat)  (x : Nat → Nat → Int32) (w : Nat → Nat → Bool) (f : Nat → Nat → Nat) : pm_ev (pm_call pm_Tf sc (d + 1)) sc 2 pm_c85 0 [(0, pm_r 67), (1, .inl 0)] [] (pm_u x w f) = some (pm_g2 x w f (q850 x w f)) := (s850_0 d  x w f).trans (((s850_1 d  x w f).trans ((pm_call1_of (z760 (d + 0) x w f)).trans ((s850_2 d  x w f).trans (pm_iteG (g := (fun t => some (pm_g2 x w f t))) (fun _ => ((s850_3 d  x w f).trans ((pm_call1_of (z78 (d + 1) x w f)).trans ((s850_4 d  x w f).trans (pm_iteG (g := (fun t => some (pm_g2 x w f t))) (fun _ => pm_iteG (g := (fun t => some (pm_g2 x w f t))) (fun _ => pm_iteG (g := (fun t => some (pm_g2 x w f t))) (fun _ => rfl) (fun _ => rfl)) (fun _ => rfl)) (fun _ => rfl)))))) (fun _ => rfl))))))
theorem z850 {sc : pm_Sc} (d : Nat) (x : Nat → Nat → Int32) (w : Nat → Nat → Bool) (f : Nat → Nat → Nat) : pm_call pm_Tf sc (d + 2) 85 [pm_r 67, .inl 0] (pm_u x w f) = some (pm_g2 x w f (q850 x w f)) := e850 d x w f
theorem s860_0 {sc : pm_Sc} (d : Nat)  (x : Nat → Nat → Int32) (w : Nat → Nat → Bool) (f : Nat → Nat → Nat) : pm_ev (pm_call pm_Tf sc (d + 1)) sc 2 pm_c86 0 [(0, pm_r 67), (1, .inl 0)] [] (pm_u x w f) = pm_ev (pm_call pm_Tf sc (d + 1)) sc 2 pm_c86 2 [(0, pm_r 67), (1, .inl 0)] [.inl 0, pm_r 67] (pm_u x w f) := by
  exact (pm_ev_iter [2, 22] 3000 _ _ _ _).trans rfl
theorem s860_1 {sc : pm_Sc} (d : Nat)  (x : Nat → Nat → Int32) (w : Nat → Nat → Bool) (f : Nat → Nat → Nat) : pm_ev (pm_call pm_Tf sc (d + 1)) sc 2 pm_c86 2 [(0, pm_r 67), (1, .inl 0)] [.inl 0, pm_r 67] (pm_u x w f) = pm_call1 (fun v u => pm_ev (pm_call pm_Tf sc (d + 1)) sc 2 pm_c86 5 [(0, pm_r 67), (1, .inl 0)] (v.toList ++ []) u) none ((pm_call pm_Tf sc (d + 1)) 77 [pm_r 67, .inl 0] (pm_u x w f)) := by
  exact (pm_ev_step _ _ _ _).trans rfl
theorem s860_2 {sc : pm_Sc} (d : Nat)  (x : Nat → Nat → Int32) (w : Nat → Nat → Bool) (f : Nat → Nat → Nat) : pm_ev (pm_call pm_Tf sc (d + 1)) sc 2 pm_c86 5 [(0, pm_r 67), (1, .inl 0)] [pm_b (q770 x w f)] (pm_u x w f) = (if (q770 x w f) = true then some (some (pm_b true), pm_u x w f) else (if (w 67 21) = true then pm_ev (pm_call pm_Tf sc (d + 1)) sc 2 pm_c86 22 [(0, pm_r 67), (1, .inl 0)] [pm_r 67] (pm_u x w f) else some (some (pm_b true), pm_u x w f))) := by
  exact (pm_ev_iter [2, 22] 3000 _ _ _ _).trans rfl
theorem s860_3 {sc : pm_Sc} (d : Nat)  (x : Nat → Nat → Int32) (w : Nat → Nat → Bool) (f : Nat → Nat → Nat) : pm_ev (pm_call pm_Tf sc (d + 1)) sc 2 pm_c86 22 [(0, pm_r 67), (1, .inl 0)] [pm_r 67] (pm_u x w f) = pm_call1 (fun v u => pm_ev (pm_call pm_Tf sc (d + 1)) sc 2 pm_c86 25 [(0, pm_r 67), (1, .inl 0)] (v.toList ++ []) u) none ((pm_call pm_Tf sc (d + 1)) 78 [pm_r 67] (pm_u x w f)) := by
  exact (pm_ev_step _ _ _ _).trans rfl
theorem s860_4 {sc : pm_Sc} (d : Nat)  (x : Nat → Nat → Int32) (w : Nat → Nat → Bool) (f : Nat → Nat → Nat) : pm_ev (pm_call pm_Tf sc (d + 1)) sc 2 pm_c86 25 [(0, pm_r 67), (1, .inl 0)] [pm_b (q78 x w f)] (pm_u x w f) = (if (q78 x w f) = true then some (some (pm_b false), pm_u x w f) else some (some (pm_b true), pm_u x w f)) := by
  exact (pm_ev_iter [2, 22] 3000 _ _ _ _).trans rfl
def q860 (x : Nat → Nat → Int32) (w : Nat → Nat → Bool) (f : Nat → Nat → Nat) : Bool := (if (q770 x w f) = true then true else (if (w 67 21) = true then (if (q78 x w f) = true then false else true) else true))
theorem e860 {sc : pm_Sc} (d : Nat)  (x : Nat → Nat → Int32) (w : Nat → Nat → Bool) (f : Nat → Nat → Nat) : pm_ev (pm_call pm_Tf sc (d + 1)) sc 2 pm_c86 0 [(0, pm_r 67), (1, .inl 0)] [] (pm_u x w f) = some (pm_g2 x w f (q860 x w f)) := (s860_0 d  x w f).trans (((s860_1 d  x w f).trans ((pm_call1_of (z770 (d + 0) x w f)).trans ((s860_2 d  x w f).trans (pm_iteG (g := (fun t => some (pm_g2 x w f t))) (fun _ => rfl) (fun _ => pm_iteG (g := (fun t => some (pm_g2 x w f t))) (fun _ => ((s860_3 d  x w f).trans ((pm_call1_of (z78 (d + 1) x w f)).trans ((s860_4 d  x w f).trans (pm_iteG (g := (fun t => some (pm_g2 x w f t))) (fun _ => rfl) (fun _ => rfl)))))) (fun _ => rfl)))))))
theorem z860 {sc : pm_Sc} (d : Nat) (x : Nat → Nat → Int32) (w : Nat → Nat → Bool) (f : Nat → Nat → Nat) : pm_call pm_Tf sc (d + 2) 86 [pm_r 67, .inl 0] (pm_u x w f) = some (pm_g2 x w f (q860 x w f)) := e860 d x w f
theorem s870_0 {sc : pm_Sc} (d : Nat)  (x : Nat → Nat → Int32) (w : Nat → Nat → Bool) (f : Nat → Nat → Nat) : pm_ev (pm_call pm_Tf sc (d + 2)) sc 0 pm_c87 0 [(0, pm_r 67), (1, .inl 0)] [] (pm_u x w f) = (if (x 69 0) = 0 then pm_ev (pm_call pm_Tf sc (d + 2)) sc 0 pm_c87 11 [(0, pm_r 67), (1, .inl 0)] [.inl 0, pm_r 67] (pm_u x w f) else (if (x 69 0) = 1 then pm_ev (pm_call pm_Tf sc (d + 2)) sc 0 pm_c87 49 [(0, pm_r 67), (1, .inl 0)] [.inl 0, pm_r 67] (pm_u x w f) else (if ((x 68 0) - (x 70 0)) = 150 then some (none, pm_u (pm_up x 69 0 0) w f) else some (none, pm_u x w f)))) := by
  exact (pm_ev_iter [11, 49] 3000 _ _ _ _).trans rfl
theorem s870_1 {sc : pm_Sc} (d : Nat)  (x : Nat → Nat → Int32) (w : Nat → Nat → Bool) (f : Nat → Nat → Nat) : pm_ev (pm_call pm_Tf sc (d + 2)) sc 0 pm_c87 11 [(0, pm_r 67), (1, .inl 0)] [.inl 0, pm_r 67] (pm_u x w f) = pm_call1 (fun v u => pm_ev (pm_call pm_Tf sc (d + 2)) sc 0 pm_c87 14 [(0, pm_r 67), (1, .inl 0)] (v.toList ++ []) u) none ((pm_call pm_Tf sc (d + 2)) 85 [pm_r 67, .inl 0] (pm_u x w f)) := by
  exact (pm_ev_step _ _ _ _).trans rfl
theorem s870_2 {sc : pm_Sc} (d : Nat)  (x : Nat → Nat → Int32) (w : Nat → Nat → Bool) (f : Nat → Nat → Nat) : pm_ev (pm_call pm_Tf sc (d + 2)) sc 0 pm_c87 14 [(0, pm_r 67), (1, .inl 0)] [pm_b (q850 x w f)] (pm_u x w f) = (if (q850 x w f) = true then some (none, pm_u (pm_up (pm_up x 69 0 1) 71 0 ((x 71 0) + (1 : Int32))) w f) else some (none, pm_u x w f)) := by
  exact (pm_ev_iter [11, 49] 3000 _ _ _ _).trans rfl
theorem s870_3 {sc : pm_Sc} (d : Nat)  (x : Nat → Nat → Int32) (w : Nat → Nat → Bool) (f : Nat → Nat → Nat) : pm_ev (pm_call pm_Tf sc (d + 2)) sc 0 pm_c87 49 [(0, pm_r 67), (1, .inl 0)] [.inl 0, pm_r 67] (pm_u x w f) = pm_call1 (fun v u => pm_ev (pm_call pm_Tf sc (d + 2)) sc 0 pm_c87 52 [(0, pm_r 67), (1, .inl 0)] (v.toList ++ []) u) none ((pm_call pm_Tf sc (d + 2)) 86 [pm_r 67, .inl 0] (pm_u x w f)) := by
  exact (pm_ev_step _ _ _ _).trans rfl
theorem s870_4 {sc : pm_Sc} (d : Nat)  (x : Nat → Nat → Int32) (w : Nat → Nat → Bool) (f : Nat → Nat → Nat) : pm_ev (pm_call pm_Tf sc (d + 2)) sc 0 pm_c87 52 [(0, pm_r 67), (1, .inl 0)] [pm_b (q860 x w f)] (pm_u x w f) = (if (q860 x w f) = true then some (none, pm_u (pm_up (pm_up x 69 0 2) 70 0 (x 68 0)) w f) else some (none, pm_u x w f)) := by
  exact (pm_ev_iter [11, 49] 3000 _ _ _ _).trans rfl
def q870 (x : Nat → Nat → Int32) (w : Nat → Nat → Bool) (f : Nat → Nat → Nat) : (Nat → Nat → Int32) × (Nat → Nat → Bool) := (if (x 69 0) = 0 then (if (q850 x w f) = true then (pm_up (pm_up x 69 0 1) 71 0 ((x 71 0) + (1 : Int32)), w) else (x, w)) else (if (x 69 0) = 1 then (if (q860 x w f) = true then (pm_up (pm_up x 69 0 2) 70 0 (x 68 0), w) else (x, w)) else (if ((x 68 0) - (x 70 0)) = 150 then (pm_up x 69 0 0, w) else (x, w))))
theorem e870 {sc : pm_Sc} (d : Nat)  (x : Nat → Nat → Int32) (w : Nat → Nat → Bool) (f : Nat → Nat → Nat) : pm_ev (pm_call pm_Tf sc (d + 2)) sc 0 pm_c87 0 [(0, pm_r 67), (1, .inl 0)] [] (pm_u x w f) = some (pm_h0 f (q870 x w f)) := (s870_0 d  x w f).trans (pm_iteG (g := (fun t => some (pm_h0 f t))) (fun _ => ((s870_1 d  x w f).trans ((pm_call1_of (z850 (d + 0) x w f)).trans ((s870_2 d  x w f).trans (pm_iteG (g := (fun t => some (pm_h0 f t))) (fun _ => rfl) (fun _ => rfl)))))) (fun _ => pm_iteG (g := (fun t => some (pm_h0 f t))) (fun _ => ((s870_3 d  x w f).trans ((pm_call1_of (z860 (d + 0) x w f)).trans ((s870_4 d  x w f).trans (pm_iteG (g := (fun t => some (pm_h0 f t))) (fun _ => rfl) (fun _ => rfl)))))) (fun _ => pm_iteG (g := (fun t => some (pm_h0 f t))) (fun _ => rfl) (fun _ => rfl))))
theorem z870 {sc : pm_Sc} (d : Nat) (x : Nat → Nat → Int32) (w : Nat → Nat → Bool) (f : Nat → Nat → Nat) : pm_call pm_Tf sc (d + 3) 87 [pm_r 67, .inl 0] (pm_u x w f) = some (pm_h0 f (q870 x w f)) := e870 d x w f
theorem s831_0 {sc : pm_Sc} (d : Nat)  (x : Nat → Nat → Int32) (w : Nat → Nat → Bool) (f : Nat → Nat → Nat) : pm_ev (pm_call pm_Tf sc (d + 2)) sc 2 pm_c83 0 [(0, pm_r 67), (1, .inl 1)] [] (pm_u x w f) = pm_ev (pm_call pm_Tf sc (d + 2)) sc 2 pm_c83 13 [(0, pm_r 67), (1, .inl 1)] [.inl 1, pm_r 67] (pm_u x w f) := by
  exact (pm_ev_iter [5, 13] 3000 _ _ _ _).trans rfl
theorem s831_1 {sc : pm_Sc} (d : Nat)  (x : Nat → Nat → Int32) (w : Nat → Nat → Bool) (f : Nat → Nat → Nat) : pm_ev (pm_call pm_Tf sc (d + 2)) sc 2 pm_c83 13 [(0, pm_r 67), (1, .inl 1)] [.inl 1, pm_r 67] (pm_u x w f) = pm_call1 (fun v u => pm_ev (pm_call pm_Tf sc (d + 2)) sc 2 pm_c83 16 [(0, pm_r 67), (1, .inl 1)] (v.toList ++ []) u) none ((pm_call pm_Tf sc (d + 2)) 82 [pm_r 67, .inl 1] (pm_u x w f)) := by
  exact (pm_ev_step _ _ _ _).trans rfl
theorem s831_2 {sc : pm_Sc} (d : Nat)  (x : Nat → Nat → Int32) (w : Nat → Nat → Bool) (f : Nat → Nat → Nat) : pm_ev (pm_call pm_Tf sc (d + 2)) sc 2 pm_c83 16 [(0, pm_r 67), (1, .inl 1)] [.inl (q821 x w f)] (pm_u x w f) = (if (q821 x w f) = 8 then some (some (pm_b true), pm_u x w f) else some (some (pm_b false), pm_u x w f)) := by
  exact (pm_ev_iter [5, 13] 3000 _ _ _ _).trans rfl
def q831 (x : Nat → Nat → Int32) (w : Nat → Nat → Bool) (f : Nat → Nat → Nat) : Bool := (if (q821 x w f) = 8 then true else false)
theorem e831 {sc : pm_Sc} (d : Nat)  (x : Nat → Nat → Int32) (w : Nat → Nat → Bool) (f : Nat → Nat → Nat) : pm_ev (pm_call pm_Tf sc (d + 2)) sc 2 pm_c83 0 [(0, pm_r 67), (1, .inl 1)] [] (pm_u x w f) = some (pm_g2 x w f (q831 x w f)) := (s831_0 d  x w f).trans (((s831_1 d  x w f).trans ((pm_call1_of (z821 (d + 0) x w f)).trans ((s831_2 d  x w f).trans (pm_iteG (g := (fun t => some (pm_g2 x w f t))) (fun _ => rfl) (fun _ => rfl))))))
theorem z831 {sc : pm_Sc} (d : Nat) (x : Nat → Nat → Int32) (w : Nat → Nat → Bool) (f : Nat → Nat → Nat) : pm_call pm_Tf sc (d + 3) 83 [pm_r 67, .inl 1] (pm_u x w f) = some (pm_g2 x w f (q831 x w f)) := e831 d x w f
theorem s841_32_7_0 {c : Nat → List pm_V → pm_S → Option pm_Rs} {sc : pm_Sc} (v0 : Int32) (v1 : Int32) (v2 : Int32) (x : Nat → Nat → Int32) (w : Nat → Nat → Bool) (f : Nat → Nat → Nat) : pm_ev c sc 1 pm_c84 32 [(3, .inl 7), (2, .inl v0), (0, pm_r 67), (1, .inl 1)] [.inl v1, .inl v2] (pm_u x w f) = some (some (.inl (v2 + v1)), pm_u x w f) := by
  exact (pm_ev_iter [32] 3000 _ _ _ _).trans rfl
def q841_32_7 (v0 : Int32) (v1 : Int32) (v2 : Int32) (x : Nat → Nat → Int32) (w : Nat → Nat → Bool) (f : Nat → Nat → Nat) : Int32 := v2 + v1
theorem e841_32_7 {c : Nat → List pm_V → pm_S → Option pm_Rs} {sc : pm_Sc} (v0 : Int32) (v1 : Int32) (v2 : Int32) (x : Nat → Nat → Int32) (w : Nat → Nat → Bool) (f : Nat → Nat → Nat) : pm_ev c sc 1 pm_c84 32 [(3, .inl 7), (2, .inl v0), (0, pm_r 67), (1, .inl 1)] [.inl v1, .inl v2] (pm_u x w f) = some (pm_g1 x w f (q841_32_7 v0 v1 v2 x w f)) := (s841_32_7_0 v0 v1 v2 x w f).trans (rfl)
theorem s841_32_6_0 {c : Nat → List pm_V → pm_S → Option pm_Rs} {sc : pm_Sc} (v0 : Int32) (v1 : Int32) (v2 : Int32) (x : Nat → Nat → Int32) (w : Nat → Nat → Bool) (f : Nat → Nat → Nat) : pm_ev c sc 1 pm_c84 32 [(3, .inl 6), (2, .inl v0), (0, pm_r 67), (1, .inl 1)] [.inl v1, .inl v2] (pm_u x w f) = (if (w 77 15) = true then pm_ev c sc 1 pm_c84 32 [(3, .inl 7), (2, .inl (v2 + v1)), (0, pm_r 67), (1, .inl 1)] [.inl 128, .inl (v2 + v1)] (pm_u x w f) else pm_ev c sc 1 pm_c84 32 [(3, .inl 7), (2, .inl (v2 + v1)), (0, pm_r 67), (1, .inl 1)] [.inl 0, .inl (v2 + v1)] (pm_u x w f)) := by
  exact (pm_ev_iter [32] 3000 _ _ _ _).trans rfl
def q841_32_6 (v0 : Int32) (v1 : Int32) (v2 : Int32) (x : Nat → Nat → Int32) (w : Nat → Nat → Bool) (f : Nat → Nat → Nat) : Int32 := (if (w 77 15) = true then q841_32_7 (v2 + v1) 128 (v2 + v1) x w f else q841_32_7 (v2 + v1) 0 (v2 + v1) x w f)
theorem e841_32_6 {c : Nat → List pm_V → pm_S → Option pm_Rs} {sc : pm_Sc} (v0 : Int32) (v1 : Int32) (v2 : Int32) (x : Nat → Nat → Int32) (w : Nat → Nat → Bool) (f : Nat → Nat → Nat) : pm_ev c sc 1 pm_c84 32 [(3, .inl 6), (2, .inl v0), (0, pm_r 67), (1, .inl 1)] [.inl v1, .inl v2] (pm_u x w f) = some (pm_g1 x w f (q841_32_6 v0 v1 v2 x w f)) := (s841_32_6_0 v0 v1 v2 x w f).trans (pm_iteG (g := (fun t => some (pm_g1 x w f t))) (fun _ => e841_32_7  (v2 + v1) 128 (v2 + v1) x w f) (fun _ => e841_32_7  (v2 + v1) 0 (v2 + v1) x w f))
theorem s841_32_5_0 {c : Nat → List pm_V → pm_S → Option pm_Rs} {sc : pm_Sc} (v0 : Int32) (v1 : Int32) (v2 : Int32) (x : Nat → Nat → Int32) (w : Nat → Nat → Bool) (f : Nat → Nat → Nat) : pm_ev c sc 1 pm_c84 32 [(3, .inl 5), (2, .inl v0), (0, pm_r 67), (1, .inl 1)] [.inl v1, .inl v2] (pm_u x w f) = (if (w 77 14) = true then pm_ev c sc 1 pm_c84 32 [(3, .inl 6), (2, .inl (v2 + v1)), (0, pm_r 67), (1, .inl 1)] [.inl 64, .inl (v2 + v1)] (pm_u x w f) else pm_ev c sc 1 pm_c84 32 [(3, .inl 6), (2, .inl (v2 + v1)), (0, pm_r 67), (1, .inl 1)] [.inl 0, .inl (v2 + v1)] (pm_u x w f)) := by
  exact (pm_ev_iter [32] 3000 _ _ _ _).trans rfl
def q841_32_5 (v0 : Int32) (v1 : Int32) (v2 : Int32) (x : Nat → Nat → Int32) (w : Nat → Nat → Bool) (f : Nat → Nat → Nat) : Int32 := (if (w 77 14) = true then q841_32_6 (v2 + v1) 64 (v2 + v1) x w f else q841_32_6 (v2 + v1) 0 (v2 + v1) x w f)
theorem e841_32_5 {c : Nat → List pm_V → pm_S → Option pm_Rs} {sc : pm_Sc} (v0 : Int32) (v1 : Int32) (v2 : Int32) (x : Nat → Nat → Int32) (w : Nat → Nat → Bool) (f : Nat → Nat → Nat) : pm_ev c sc 1 pm_c84 32 [(3, .inl 5), (2, .inl v0), (0, pm_r 67), (1, .inl 1)] [.inl v1, .inl v2] (pm_u x w f) = some (pm_g1 x w f (q841_32_5 v0 v1 v2 x w f)) := (s841_32_5_0 v0 v1 v2 x w f).trans (pm_iteG (g := (fun t => some (pm_g1 x w f t))) (fun _ => e841_32_6  (v2 + v1) 64 (v2 + v1) x w f) (fun _ => e841_32_6  (v2 + v1) 0 (v2 + v1) x w f))
theorem s841_32_4_0 {c : Nat → List pm_V → pm_S → Option pm_Rs} {sc : pm_Sc} (v0 : Int32) (v1 : Int32) (v2 : Int32) (x : Nat → Nat → Int32) (w : Nat → Nat → Bool) (f : Nat → Nat → Nat) : pm_ev c sc 1 pm_c84 32 [(3, .inl 4), (2, .inl v0), (0, pm_r 67), (1, .inl 1)] [.inl v1, .inl v2] (pm_u x w f) = (if (w 77 13) = true then pm_ev c sc 1 pm_c84 32 [(3, .inl 5), (2, .inl (v2 + v1)), (0, pm_r 67), (1, .inl 1)] [.inl 32, .inl (v2 + v1)] (pm_u x w f) else pm_ev c sc 1 pm_c84 32 [(3, .inl 5), (2, .inl (v2 + v1)), (0, pm_r 67), (1, .inl 1)] [.inl 0, .inl (v2 + v1)] (pm_u x w f)) := by
  exact (pm_ev_iter [32] 3000 _ _ _ _).trans rfl
def q841_32_4 (v0 : Int32) (v1 : Int32) (v2 : Int32) (x : Nat → Nat → Int32) (w : Nat → Nat → Bool) (f : Nat → Nat → Nat) : Int32 := (if (w 77 13) = true then q841_32_5 (v2 + v1) 32 (v2 + v1) x w f else q841_32_5 (v2 + v1) 0 (v2 + v1) x w f)
theorem e841_32_4 {c : Nat → List pm_V → pm_S → Option pm_Rs} {sc : pm_Sc} (v0 : Int32) (v1 : Int32) (v2 : Int32) (x : Nat → Nat → Int32) (w : Nat → Nat → Bool) (f : Nat → Nat → Nat) : pm_ev c sc 1 pm_c84 32 [(3, .inl 4), (2, .inl v0), (0, pm_r 67), (1, .inl 1)] [.inl v1, .inl v2] (pm_u x w f) = some (pm_g1 x w f (q841_32_4 v0 v1 v2 x w f)) := (s841_32_4_0 v0 v1 v2 x w f).trans (pm_iteG (g := (fun t => some (pm_g1 x w f t))) (fun _ => e841_32_5  (v2 + v1) 32 (v2 + v1) x w f) (fun _ => e841_32_5  (v2 + v1) 0 (v2 + v1) x w f))
theorem s841_32_3_0 {c : Nat → List pm_V → pm_S → Option pm_Rs} {sc : pm_Sc} (v0 : Int32) (v1 : Int32) (v2 : Int32) (x : Nat → Nat → Int32) (w : Nat → Nat → Bool) (f : Nat → Nat → Nat) : pm_ev c sc 1 pm_c84 32 [(3, .inl 3), (2, .inl v0), (0, pm_r 67), (1, .inl 1)] [.inl v1, .inl v2] (pm_u x w f) = (if (w 77 12) = true then pm_ev c sc 1 pm_c84 32 [(3, .inl 4), (2, .inl (v2 + v1)), (0, pm_r 67), (1, .inl 1)] [.inl 16, .inl (v2 + v1)] (pm_u x w f) else pm_ev c sc 1 pm_c84 32 [(3, .inl 4), (2, .inl (v2 + v1)), (0, pm_r 67), (1, .inl 1)] [.inl 0, .inl (v2 + v1)] (pm_u x w f)) := by
  exact (pm_ev_iter [32] 3000 _ _ _ _).trans rfl
def q841_32_3 (v0 : Int32) (v1 : Int32) (v2 : Int32) (x : Nat → Nat → Int32) (w : Nat → Nat → Bool) (f : Nat → Nat → Nat) : Int32 := (if (w 77 12) = true then q841_32_4 (v2 + v1) 16 (v2 + v1) x w f else q841_32_4 (v2 + v1) 0 (v2 + v1) x w f)
theorem e841_32_3 {c : Nat → List pm_V → pm_S → Option pm_Rs} {sc : pm_Sc} (v0 : Int32) (v1 : Int32) (v2 : Int32) (x : Nat → Nat → Int32) (w : Nat → Nat → Bool) (f : Nat → Nat → Nat) : pm_ev c sc 1 pm_c84 32 [(3, .inl 3), (2, .inl v0), (0, pm_r 67), (1, .inl 1)] [.inl v1, .inl v2] (pm_u x w f) = some (pm_g1 x w f (q841_32_3 v0 v1 v2 x w f)) := (s841_32_3_0 v0 v1 v2 x w f).trans (pm_iteG (g := (fun t => some (pm_g1 x w f t))) (fun _ => e841_32_4  (v2 + v1) 16 (v2 + v1) x w f) (fun _ => e841_32_4  (v2 + v1) 0 (v2 + v1) x w f))
theorem s841_32_2_0 {c : Nat → List pm_V → pm_S → Option pm_Rs} {sc : pm_Sc} (v0 : Int32) (v1 : Int32) (v2 : Int32) (x : Nat → Nat → Int32) (w : Nat → Nat → Bool) (f : Nat → Nat → Nat) : pm_ev c sc 1 pm_c84 32 [(3, .inl 2), (2, .inl v0), (0, pm_r 67), (1, .inl 1)] [.inl v1, .inl v2] (pm_u x w f) = (if (w 77 11) = true then pm_ev c sc 1 pm_c84 32 [(3, .inl 3), (2, .inl (v2 + v1)), (0, pm_r 67), (1, .inl 1)] [.inl 8, .inl (v2 + v1)] (pm_u x w f) else pm_ev c sc 1 pm_c84 32 [(3, .inl 3), (2, .inl (v2 + v1)), (0, pm_r 67), (1, .inl 1)] [.inl 0, .inl (v2 + v1)] (pm_u x w f)) := by
  exact (pm_ev_iter [32] 3000 _ _ _ _).trans rfl
def q841_32_2 (v0 : Int32) (v1 : Int32) (v2 : Int32) (x : Nat → Nat → Int32) (w : Nat → Nat → Bool) (f : Nat → Nat → Nat) : Int32 := (if (w 77 11) = true then q841_32_3 (v2 + v1) 8 (v2 + v1) x w f else q841_32_3 (v2 + v1) 0 (v2 + v1) x w f)
theorem e841_32_2 {c : Nat → List pm_V → pm_S → Option pm_Rs} {sc : pm_Sc} (v0 : Int32) (v1 : Int32) (v2 : Int32) (x : Nat → Nat → Int32) (w : Nat → Nat → Bool) (f : Nat → Nat → Nat) : pm_ev c sc 1 pm_c84 32 [(3, .inl 2), (2, .inl v0), (0, pm_r 67), (1, .inl 1)] [.inl v1, .inl v2] (pm_u x w f) = some (pm_g1 x w f (q841_32_2 v0 v1 v2 x w f)) := (s841_32_2_0 v0 v1 v2 x w f).trans (pm_iteG (g := (fun t => some (pm_g1 x w f t))) (fun _ => e841_32_3  (v2 + v1) 8 (v2 + v1) x w f) (fun _ => e841_32_3  (v2 + v1) 0 (v2 + v1) x w f))
theorem s841_32_1_0 {c : Nat → List pm_V → pm_S → Option pm_Rs} {sc : pm_Sc} (v0 : Int32) (v1 : Int32) (v2 : Int32) (x : Nat → Nat → Int32) (w : Nat → Nat → Bool) (f : Nat → Nat → Nat) : pm_ev c sc 1 pm_c84 32 [(3, .inl 1), (2, .inl v0), (0, pm_r 67), (1, .inl 1)] [.inl v1, .inl v2] (pm_u x w f) = (if (w 77 10) = true then pm_ev c sc 1 pm_c84 32 [(3, .inl 2), (2, .inl (v2 + v1)), (0, pm_r 67), (1, .inl 1)] [.inl 4, .inl (v2 + v1)] (pm_u x w f) else pm_ev c sc 1 pm_c84 32 [(3, .inl 2), (2, .inl (v2 + v1)), (0, pm_r 67), (1, .inl 1)] [.inl 0, .inl (v2 + v1)] (pm_u x w f)) := by
  exact (pm_ev_iter [32] 3000 _ _ _ _).trans rfl
def q841_32_1 (v0 : Int32) (v1 : Int32) (v2 : Int32) (x : Nat → Nat → Int32) (w : Nat → Nat → Bool) (f : Nat → Nat → Nat) : Int32 := (if (w 77 10) = true then q841_32_2 (v2 + v1) 4 (v2 + v1) x w f else q841_32_2 (v2 + v1) 0 (v2 + v1) x w f)
theorem e841_32_1 {c : Nat → List pm_V → pm_S → Option pm_Rs} {sc : pm_Sc} (v0 : Int32) (v1 : Int32) (v2 : Int32) (x : Nat → Nat → Int32) (w : Nat → Nat → Bool) (f : Nat → Nat → Nat) : pm_ev c sc 1 pm_c84 32 [(3, .inl 1), (2, .inl v0), (0, pm_r 67), (1, .inl 1)] [.inl v1, .inl v2] (pm_u x w f) = some (pm_g1 x w f (q841_32_1 v0 v1 v2 x w f)) := (s841_32_1_0 v0 v1 v2 x w f).trans (pm_iteG (g := (fun t => some (pm_g1 x w f t))) (fun _ => e841_32_2  (v2 + v1) 4 (v2 + v1) x w f) (fun _ => e841_32_2  (v2 + v1) 0 (v2 + v1) x w f))
theorem s841_32_0 {c : Nat → List pm_V → pm_S → Option pm_Rs} {sc : pm_Sc} (v0 : Int32) (x : Nat → Nat → Int32) (w : Nat → Nat → Bool) (f : Nat → Nat → Nat) : pm_ev c sc 1 pm_c84 32 [(3, .inl 0), (2, .inl 0), (0, pm_r 67), (1, .inl 1)] [.inl v0, .inl 0] (pm_u x w f) = (if (w 77 9) = true then pm_ev c sc 1 pm_c84 32 [(3, .inl 1), (2, .inl ((0 : Int32) + v0)), (0, pm_r 67), (1, .inl 1)] [.inl 2, .inl ((0 : Int32) + v0)] (pm_u x w f) else pm_ev c sc 1 pm_c84 32 [(3, .inl 1), (2, .inl ((0 : Int32) + v0)), (0, pm_r 67), (1, .inl 1)] [.inl 0, .inl ((0 : Int32) + v0)] (pm_u x w f)) := by
  exact (pm_ev_iter [32] 3000 _ _ _ _).trans rfl
def q841_32 (v0 : Int32) (x : Nat → Nat → Int32) (w : Nat → Nat → Bool) (f : Nat → Nat → Nat) : Int32 := (if (w 77 9) = true then q841_32_1 ((0 : Int32) + v0) 2 ((0 : Int32) + v0) x w f else q841_32_1 ((0 : Int32) + v0) 0 ((0 : Int32) + v0) x w f)
theorem e841_32 {c : Nat → List pm_V → pm_S → Option pm_Rs} {sc : pm_Sc} (v0 : Int32) (x : Nat → Nat → Int32) (w : Nat → Nat → Bool) (f : Nat → Nat → Nat) : pm_ev c sc 1 pm_c84 32 [(3, .inl 0), (2, .inl 0), (0, pm_r 67), (1, .inl 1)] [.inl v0, .inl 0] (pm_u x w f) = some (pm_g1 x w f (q841_32 v0 x w f)) := (s841_32_0 v0 x w f).trans (pm_iteG (g := (fun t => some (pm_g1 x w f t))) (fun _ => e841_32_1  ((0 : Int32) + v0) 2 ((0 : Int32) + v0) x w f) (fun _ => e841_32_1  ((0 : Int32) + v0) 0 ((0 : Int32) + v0) x w f))
theorem s841_0 {c : Nat → List pm_V → pm_S → Option pm_Rs} {sc : pm_Sc}  (x : Nat → Nat → Int32) (w : Nat → Nat → Bool) (f : Nat → Nat → Nat) : pm_ev c sc 1 pm_c84 0 [(0, pm_r 67), (1, .inl 1)] [] (pm_u x w f) = (if (w 77 8) = true then pm_ev c sc 1 pm_c84 32 [(3, .inl 0), (2, .inl 0), (0, pm_r 67), (1, .inl 1)] [.inl 1, .inl 0] (pm_u x w f) else pm_ev c sc 1 pm_c84 32 [(3, .inl 0), (2, .inl 0), (0, pm_r 67), (1, .inl 1)] [.inl 0, .inl 0] (pm_u x w f)) := by
  exact (pm_ev_iter [32] 3000 _ _ _ _).trans rfl
def q841 (x : Nat → Nat → Int32) (w : Nat → Nat → Bool) (f : Nat → Nat → Nat) : Int32 := (if (w 77 8) = true then q841_32 1 x w f else q841_32 0 x w f)
theorem e841 {c : Nat → List pm_V → pm_S → Option pm_Rs} {sc : pm_Sc}  (x : Nat → Nat → Int32) (w : Nat → Nat → Bool) (f : Nat → Nat → Nat) : pm_ev c sc 1 pm_c84 0 [(0, pm_r 67), (1, .inl 1)] [] (pm_u x w f) = some (pm_g1 x w f (q841 x w f)) := (s841_0  x w f).trans (pm_iteG (g := (fun t => some (pm_g1 x w f t))) (fun _ => e841_32  1 x w f) (fun _ => e841_32  0 x w f))
theorem z841 {sc : pm_Sc} (d : Nat) (x : Nat → Nat → Int32) (w : Nat → Nat → Bool) (f : Nat → Nat → Nat) : pm_call pm_Tf sc (d + 0) 84 [pm_r 67, .inl 1] (pm_u x w f) = some (pm_g1 x w f (q841 x w f)) := pm_call_0 (fun _ => e841 x w f) d
theorem s851_0 {sc : pm_Sc} (d : Nat)  (x : Nat → Nat → Int32) (w : Nat → Nat → Bool) (f : Nat → Nat → Nat) : pm_ev (pm_call pm_Tf sc (d + 1)) sc 2 pm_c85 0 [(0, pm_r 67), (1, .inl 1)] [] (pm_u x w f) = pm_ev (pm_call pm_Tf sc (d + 1)) sc 2 pm_c85 2 [(0, pm_r 67), (1, .inl 1)] [.inl 1, pm_r 67] (pm_u x w f) := by
  exact (pm_ev_iter [2, 18] 3000 _ _ _ _).trans rfl
theorem s851_1 {sc : pm_Sc} (d : Nat)  (x : Nat → Nat → Int32) (w : Nat → Nat → Bool) (f : Nat → Nat → Nat) : pm_ev (pm_call pm_Tf sc (d + 1)) sc 2 pm_c85 2 [(0, pm_r 67), (1, .inl 1)] [.inl 1, pm_r 67] (pm_u x w f) = pm_call1 (fun v u => pm_ev (pm_call pm_Tf sc (d + 1)) sc 2 pm_c85 5 [(0, pm_r 67), (1, .inl 1)] (v.toList ++ []) u) none ((pm_call pm_Tf sc (d + 1)) 76 [pm_r 67, .inl 1] (pm_u x w f)) := by
  exact (pm_ev_step _ _ _ _).trans rfl
theorem s851_2 {sc : pm_Sc} (d : Nat)  (x : Nat → Nat → Int32) (w : Nat → Nat → Bool) (f : Nat → Nat → Nat) : pm_ev (pm_call pm_Tf sc (d + 1)) sc 2 pm_c85 5 [(0, pm_r 67), (1, .inl 1)] [pm_b (q761 x w f)] (pm_u x w f) = (if (q761 x w f) = true then (if (x 73 10) = 1 then (if (x 73 11) = 1 then some (some (pm_b true), pm_u x w f) else some (some (pm_b false), pm_u x w f)) else some (some (pm_b false), pm_u x w f)) else some (some (pm_b false), pm_u x w f)) := by
  exact (pm_ev_iter [2, 18] 3000 _ _ _ _).trans rfl
def q851 (x : Nat → Nat → Int32) (w : Nat → Nat → Bool) (f : Nat → Nat → Nat) : Bool := (if (q761 x w f) = true then (if (x 73 10) = 1 then (if (x 73 11) = 1 then true else false) else false) else false)
theorem e851 {sc : pm_Sc} (d : Nat)  (x : Nat → Nat → Int32) (w : Nat → Nat → Bool) (f : Nat → Nat → Nat) : pm_ev (pm_call pm_Tf sc (d + 1)) sc 2 pm_c85 0 [(0, pm_r 67), (1, .inl 1)] [] (pm_u x w f) = some (pm_g2 x w f (q851 x w f)) := (s851_0 d  x w f).trans (((s851_1 d  x w f).trans ((pm_call1_of (z761 (d + 0) x w f)).trans ((s851_2 d  x w f).trans (pm_iteG (g := (fun t => some (pm_g2 x w f t))) (fun _ => pm_iteG (g := (fun t => some (pm_g2 x w f t))) (fun _ => pm_iteG (g := (fun t => some (pm_g2 x w f t))) (fun _ => rfl) (fun _ => rfl)) (fun _ => rfl)) (fun _ => rfl))))))
theorem z851 {sc : pm_Sc} (d : Nat) (x : Nat → Nat → Int32) (w : Nat → Nat → Bool) (f : Nat → Nat → Nat) : pm_call pm_Tf sc (d + 2) 85 [pm_r 67, .inl 1] (pm_u x w f) = some (pm_g2 x w f (q851 x w f)) := e851 d x w f
theorem s861_0 {sc : pm_Sc} (d : Nat)  (x : Nat → Nat → Int32) (w : Nat → Nat → Bool) (f : Nat → Nat → Nat) : pm_ev (pm_call pm_Tf sc (d + 1)) sc 2 pm_c86 0 [(0, pm_r 67), (1, .inl 1)] [] (pm_u x w f) = pm_ev (pm_call pm_Tf sc (d + 1)) sc 2 pm_c86 2 [(0, pm_r 67), (1, .inl 1)] [.inl 1, pm_r 67] (pm_u x w f) := by
  exact (pm_ev_iter [2, 22] 3000 _ _ _ _).trans rfl
theorem s861_1 {sc : pm_Sc} (d : Nat)  (x : Nat → Nat → Int32) (w : Nat → Nat → Bool) (f : Nat → Nat → Nat) : pm_ev (pm_call pm_Tf sc (d + 1)) sc 2 pm_c86 2 [(0, pm_r 67), (1, .inl 1)] [.inl 1, pm_r 67] (pm_u x w f) = pm_call1 (fun v u => pm_ev (pm_call pm_Tf sc (d + 1)) sc 2 pm_c86 5 [(0, pm_r 67), (1, .inl 1)] (v.toList ++ []) u) none ((pm_call pm_Tf sc (d + 1)) 77 [pm_r 67, .inl 1] (pm_u x w f)) := by
  exact (pm_ev_step _ _ _ _).trans rfl
theorem s861_2 {sc : pm_Sc} (d : Nat)  (x : Nat → Nat → Int32) (w : Nat → Nat → Bool) (f : Nat → Nat → Nat) : pm_ev (pm_call pm_Tf sc (d + 1)) sc 2 pm_c86 5 [(0, pm_r 67), (1, .inl 1)] [pm_b (q771 x w f)] (pm_u x w f) = (if (q771 x w f) = true then some (some (pm_b true), pm_u x w f) else (if (x 73 10) = 0 then some (some (pm_b true), pm_u x w f) else (if (x 73 11) = 0 then some (some (pm_b true), pm_u x w f) else some (some (pm_b false), pm_u x w f)))) := by
  exact (pm_ev_iter [2, 22] 3000 _ _ _ _).trans rfl
def q861 (x : Nat → Nat → Int32) (w : Nat → Nat → Bool) (f : Nat → Nat → Nat) : Bool := (if (q771 x w f) = true then true else (if (x 73 10) = 0 then true else (if (x 73 11) = 0 then true else false)))
theorem e861 {sc : pm_Sc} (d : Nat)  (x : Nat → Nat → Int32) (w : Nat → Nat → Bool) (f : Nat → Nat → Nat) : pm_ev (pm_call pm_Tf sc (d + 1)) sc 2 pm_c86 0 [(0, pm_r 67), (1, .inl 1)] [] (pm_u x w f) = some (pm_g2 x w f (q861 x w f)) := (s861_0 d  x w f).trans (((s861_1 d  x w f).trans ((pm_call1_of (z771 (d + 0) x w f)).trans ((s861_2 d  x w f).trans (pm_iteG (g := (fun t => some (pm_g2 x w f t))) (fun _ => rfl) (fun _ => pm_iteG (g := (fun t => some (pm_g2 x w f t))) (fun _ => rfl) (fun _ => pm_iteG (g := (fun t => some (pm_g2 x w f t))) (fun _ => rfl) (fun _ => rfl))))))))
theorem z861 {sc : pm_Sc} (d : Nat) (x : Nat → Nat → Int32) (w : Nat → Nat → Bool) (f : Nat → Nat → Nat) : pm_call pm_Tf sc (d + 2) 86 [pm_r 67, .inl 1] (pm_u x w f) = some (pm_g2 x w f (q861 x w f)) := e861 d x w f
theorem s871_0 {sc : pm_Sc} (d : Nat)  (x : Nat → Nat → Int32) (w : Nat → Nat → Bool) (f : Nat → Nat → Nat) : pm_ev (pm_call pm_Tf sc (d + 2)) sc 0 pm_c87 0 [(0, pm_r 67), (1, .inl 1)] [] (pm_u x w f) = (if (x 69 1) = 0 then pm_ev (pm_call pm_Tf sc (d + 2)) sc 0 pm_c87 11 [(0, pm_r 67), (1, .inl 1)] [.inl 1, pm_r 67] (pm_u x w f) else (if (x 69 1) = 1 then pm_ev (pm_call pm_Tf sc (d + 2)) sc 0 pm_c87 49 [(0, pm_r 67), (1, .inl 1)] [.inl 1, pm_r 67] (pm_u x w f) else (if ((x 68 1) - (x 70 1)) = 150 then some (none, pm_u (pm_up x 69 1 0) w f) else some (none, pm_u x w f)))) := by
  exact (pm_ev_iter [11, 49] 3000 _ _ _ _).trans rfl
theorem s871_1 {sc : pm_Sc} (d : Nat)  (x : Nat → Nat → Int32) (w : Nat → Nat → Bool) (f : Nat → Nat → Nat) : pm_ev (pm_call pm_Tf sc (d + 2)) sc 0 pm_c87 11 [(0, pm_r 67), (1, .inl 1)] [.inl 1, pm_r 67] (pm_u x w f) = pm_call1 (fun v u => pm_ev (pm_call pm_Tf sc (d + 2)) sc 0 pm_c87 14 [(0, pm_r 67), (1, .inl 1)] (v.toList ++ []) u) none ((pm_call pm_Tf sc (d + 2)) 85 [pm_r 67, .inl 1] (pm_u x w f)) := by
  exact (pm_ev_step _ _ _ _).trans rfl
theorem s871_2 {sc : pm_Sc} (d : Nat)  (x : Nat → Nat → Int32) (w : Nat → Nat → Bool) (f : Nat → Nat → Nat) : pm_ev (pm_call pm_Tf sc (d + 2)) sc 0 pm_c87 14 [(0, pm_r 67), (1, .inl 1)] [pm_b (q851 x w f)] (pm_u x w f) = (if (q851 x w f) = true then some (none, pm_u (pm_up (pm_up x 69 1 1) 71 1 ((x 71 1) + (1 : Int32))) w f) else some (none, pm_u x w f)) := by
  exact (pm_ev_iter [11, 49] 3000 _ _ _ _).trans rfl
theorem s871_3 {sc : pm_Sc} (d : Nat)  (x : Nat → Nat → Int32) (w : Nat → Nat → Bool) (f : Nat → Nat → Nat) : pm_ev (pm_call pm_Tf sc (d + 2)) sc 0 pm_c87 49 [(0, pm_r 67), (1, .inl 1)] [.inl 1, pm_r 67] (pm_u x w f) = pm_call1 (fun v u => pm_ev (pm_call pm_Tf sc (d + 2)) sc 0 pm_c87 52 [(0, pm_r 67), (1, .inl 1)] (v.toList ++ []) u) none ((pm_call pm_Tf sc (d + 2)) 86 [pm_r 67, .inl 1] (pm_u x w f)) := by
  exact (pm_ev_step _ _ _ _).trans rfl
theorem s871_4 {sc : pm_Sc} (d : Nat)  (x : Nat → Nat → Int32) (w : Nat → Nat → Bool) (f : Nat → Nat → Nat) : pm_ev (pm_call pm_Tf sc (d + 2)) sc 0 pm_c87 52 [(0, pm_r 67), (1, .inl 1)] [pm_b (q861 x w f)] (pm_u x w f) = (if (q861 x w f) = true then some (none, pm_u (pm_up (pm_up x 69 1 2) 70 1 (x 68 1)) w f) else some (none, pm_u x w f)) := by
  exact (pm_ev_iter [11, 49] 3000 _ _ _ _).trans rfl
def q871 (x : Nat → Nat → Int32) (w : Nat → Nat → Bool) (f : Nat → Nat → Nat) : (Nat → Nat → Int32) × (Nat → Nat → Bool) := (if (x 69 1) = 0 then (if (q851 x w f) = true then (pm_up (pm_up x 69 1 1) 71 1 ((x 71 1) + (1 : Int32)), w) else (x, w)) else (if (x 69 1) = 1 then (if (q861 x w f) = true then (pm_up (pm_up x 69 1 2) 70 1 (x 68 1), w) else (x, w)) else (if ((x 68 1) - (x 70 1)) = 150 then (pm_up x 69 1 0, w) else (x, w))))
theorem e871 {sc : pm_Sc} (d : Nat)  (x : Nat → Nat → Int32) (w : Nat → Nat → Bool) (f : Nat → Nat → Nat) : pm_ev (pm_call pm_Tf sc (d + 2)) sc 0 pm_c87 0 [(0, pm_r 67), (1, .inl 1)] [] (pm_u x w f) = some (pm_h0 f (q871 x w f)) := (s871_0 d  x w f).trans (pm_iteG (g := (fun t => some (pm_h0 f t))) (fun _ => ((s871_1 d  x w f).trans ((pm_call1_of (z851 (d + 0) x w f)).trans ((s871_2 d  x w f).trans (pm_iteG (g := (fun t => some (pm_h0 f t))) (fun _ => rfl) (fun _ => rfl)))))) (fun _ => pm_iteG (g := (fun t => some (pm_h0 f t))) (fun _ => ((s871_3 d  x w f).trans ((pm_call1_of (z861 (d + 0) x w f)).trans ((s871_4 d  x w f).trans (pm_iteG (g := (fun t => some (pm_h0 f t))) (fun _ => rfl) (fun _ => rfl)))))) (fun _ => pm_iteG (g := (fun t => some (pm_h0 f t))) (fun _ => rfl) (fun _ => rfl))))
theorem z871 {sc : pm_Sc} (d : Nat) (x : Nat → Nat → Int32) (w : Nat → Nat → Bool) (f : Nat → Nat → Nat) : pm_call pm_Tf sc (d + 3) 87 [pm_r 67, .inl 1] (pm_u x w f) = some (pm_h0 f (q871 x w f)) := e871 d x w f
set_option maxRecDepth 20000 in
theorem s880_325_0 {sc : pm_Sc} (d : Nat) (i : Nat) (v0 : Bool) (v1 : Bool) (v2 : Int32) (v3 : Int32) (x : Nat → Nat → Int32) (w : Nat → Nat → Bool) (f : Nat → Nat → Nat) (hi : i < 8) : pm_ev (pm_call pm_Tf sc (d + 0)) sc 0 pm_c88 325 [(5, pm_bi v0), (4, pm_bi v1), (3, .inl (Int32.ofNat (0 + i))), (0, pm_r 67), (1, .inl 0), (2, .inl (Int32.ofNat i))] [.inl v2, .inl v3, .inl (Int32.ofNat (0 + i)), pm_r 81] (pm_u x w f) = (if v0 = true then some (none, pm_u (pm_up (pm_up x 81 (0 + i) (v3 - v2)) 83 (0 + i) 40) w f) else (if (x 83 (0 + i)) ≤ 0 then some (none, pm_u (pm_up (pm_up x 81 (0 + i) (v3 - v2)) 83 (0 + i) 0) w f) else some (none, pm_u (pm_up (pm_up x 81 (0 + i) (v3 - v2)) 83 (0 + i) ((x 83 (0 + i)) - (1 : Int32))) w f))) := by
  (rcases pm_lt8 hi with rfl | rfl | rfl | rfl | rfl | rfl | rfl | rfl) <;> cases v0 <;> cases v1 <;> exact (pm_ev_iter [40, 84, 254, 281, 284, 304, 325] 3000 _ _ _ _).trans rfl
def q880_325 (i : Nat) (v0 : Bool) (v1 : Bool) (v2 : Int32) (v3 : Int32) (x : Nat → Nat → Int32) (w : Nat → Nat → Bool) (f : Nat → Nat → Nat) : (Nat → Nat → Int32) × (Nat → Nat → Bool) := (if v0 = true then (pm_up (pm_up x 81 (0 + i) (v3 - v2)) 83 (0 + i) 40, w) else (if (x 83 (0 + i)) ≤ 0 then (pm_up (pm_up x 81 (0 + i) (v3 - v2)) 83 (0 + i) 0, w) else (pm_up (pm_up x 81 (0 + i) (v3 - v2)) 83 (0 + i) ((x 83 (0 + i)) - (1 : Int32)), w)))
theorem e880_325 {sc : pm_Sc} (d : Nat) (i : Nat) (v0 : Bool) (v1 : Bool) (v2 : Int32) (v3 : Int32) (x : Nat → Nat → Int32) (w : Nat → Nat → Bool) (f : Nat → Nat → Nat) (hi : i < 8) : pm_ev (pm_call pm_Tf sc (d + 0)) sc 0 pm_c88 325 [(5, pm_bi v0), (4, pm_bi v1), (3, .inl (Int32.ofNat (0 + i))), (0, pm_r 67), (1, .inl 0), (2, .inl (Int32.ofNat i))] [.inl v2, .inl v3, .inl (Int32.ofNat (0 + i)), pm_r 81] (pm_u x w f) = some (pm_h0 f (q880_325 i v0 v1 v2 v3 x w f)) := (s880_325_0 d i v0 v1 v2 v3 x w f hi).trans (pm_iteG (g := (fun t => some (pm_h0 f t))) (fun _ => rfl) (fun _ => pm_iteG (g := (fun t => some (pm_h0 f t))) (fun _ => rfl) (fun _ => rfl)))
set_option maxRecDepth 20000 in
theorem s880_304_0 {sc : pm_Sc} (d : Nat) (i : Nat) (v0 : Bool) (v1 : Bool) (x : Nat → Nat → Int32) (w : Nat → Nat → Bool) (f : Nat → Nat → Nat) (hi : i < 8) : pm_ev (pm_call pm_Tf sc (d + 0)) sc 0 pm_c88 304 [(5, pm_bi v0), (4, pm_bi v1), (3, .inl (Int32.ofNat (0 + i))), (0, pm_r 67), (1, .inl 0), (2, .inl (Int32.ofNat i))] [] (pm_u x w f) = (if (x 81 (0 + i)) ≤ 0 then pm_ev (pm_call pm_Tf sc (d + 0)) sc 0 pm_c88 325 [(5, pm_bi v0), (4, pm_bi v1), (3, .inl (Int32.ofNat (0 + i))), (0, pm_r 67), (1, .inl 0), (2, .inl (Int32.ofNat i))] [.inl 0, .inl (x 81 (0 + i)), .inl (Int32.ofNat (0 + i)), pm_r 81] (pm_u x w f) else pm_ev (pm_call pm_Tf sc (d + 0)) sc 0 pm_c88 325 [(5, pm_bi v0), (4, pm_bi v1), (3, .inl (Int32.ofNat (0 + i))), (0, pm_r 67), (1, .inl 0), (2, .inl (Int32.ofNat i))] [.inl 1, .inl (x 81 (0 + i)), .inl (Int32.ofNat (0 + i)), pm_r 81] (pm_u x w f)) := by
  (rcases pm_lt8 hi with rfl | rfl | rfl | rfl | rfl | rfl | rfl | rfl) <;> cases v0 <;> cases v1 <;> exact (pm_ev_iter [40, 84, 254, 281, 284, 304, 325] 3000 _ _ _ _).trans rfl
def q880_304 (i : Nat) (v0 : Bool) (v1 : Bool) (x : Nat → Nat → Int32) (w : Nat → Nat → Bool) (f : Nat → Nat → Nat) : (Nat → Nat → Int32) × (Nat → Nat → Bool) := (if (x 81 (0 + i)) ≤ 0 then q880_325 i v0 v1 0 (x 81 (0 + i)) x w f else q880_325 i v0 v1 1 (x 81 (0 + i)) x w f)
theorem e880_304 {sc : pm_Sc} (d : Nat) (i : Nat) (v0 : Bool) (v1 : Bool) (x : Nat → Nat → Int32) (w : Nat → Nat → Bool) (f : Nat → Nat → Nat) (hi : i < 8) : pm_ev (pm_call pm_Tf sc (d + 0)) sc 0 pm_c88 304 [(5, pm_bi v0), (4, pm_bi v1), (3, .inl (Int32.ofNat (0 + i))), (0, pm_r 67), (1, .inl 0), (2, .inl (Int32.ofNat i))] [] (pm_u x w f) = some (pm_h0 f (q880_304 i v0 v1 x w f)) := (s880_304_0 d i v0 v1 x w f hi).trans (pm_iteG (g := (fun t => some (pm_h0 f t))) (fun _ => e880_325 d  i v0 v1 0 (x 81 (0 + i)) x w f hi) (fun _ => e880_325 d  i v0 v1 1 (x 81 (0 + i)) x w f hi))
set_option maxRecDepth 20000 in
theorem s880_281_0 {sc : pm_Sc} (d : Nat) (i : Nat) (v0 : Bool) (v1 : Bool) (v2 : Int32) (x : Nat → Nat → Int32) (w : Nat → Nat → Bool) (f : Nat → Nat → Nat) (hi : i < 8) : pm_ev (pm_call pm_Tf sc (d + 0)) sc 0 pm_c88 281 [(5, pm_bi v0), (4, pm_bi v1), (3, .inl (Int32.ofNat (0 + i))), (0, pm_r 67), (1, .inl 0), (2, .inl (Int32.ofNat i))] [.inl v2, .inl (Int32.ofNat (0 + i)), pm_r 76] (pm_u x w f) = pm_ev (pm_call pm_Tf sc (d + 0)) sc 0 pm_c88 284 [(5, pm_bi v0), (4, pm_bi v1), (3, .inl (Int32.ofNat (0 + i))), (0, pm_r 67), (1, .inl 0), (2, .inl (Int32.ofNat i))] [.inl (Int32.ofNat (0 + i)), pm_r 67] (pm_u (pm_up x 76 (0 + i) v2) w f) := by
  (rcases pm_lt8 hi with rfl | rfl | rfl | rfl | rfl | rfl | rfl | rfl) <;> cases v0 <;> cases v1 <;> exact (pm_ev_iter [40, 84, 254, 281, 284, 304, 325] 3000 _ _ _ _).trans rfl
theorem s880_281_1 {sc : pm_Sc} (d : Nat) (i : Nat) (v0 : Bool) (v1 : Bool) (v2 : Int32) (x : Nat → Nat → Int32) (w : Nat → Nat → Bool) (f : Nat → Nat → Nat) (hi : i < 8) : pm_ev (pm_call pm_Tf sc (d + 0)) sc 0 pm_c88 284 [(5, pm_bi v0), (4, pm_bi v1), (3, .inl (Int32.ofNat (0 + i))), (0, pm_r 67), (1, .inl 0), (2, .inl (Int32.ofNat i))] [.inl (Int32.ofNat (0 + i)), pm_r 67] (pm_u (pm_up x 76 (0 + i) v2) w f) = pm_call1 (fun v u => pm_ev (pm_call pm_Tf sc (d + 0)) sc 0 pm_c88 287 [(5, pm_bi v0), (4, pm_bi v1), (3, .inl (Int32.ofNat (0 + i))), (0, pm_r 67), (1, .inl 0), (2, .inl (Int32.ofNat i))] (v.toList ++ []) u) none ((pm_call pm_Tf sc (d + 0)) 79 [pm_r 67, .inl (Int32.ofNat (0 + i))] (pm_u (pm_up x 76 (0 + i) v2) w f)) := by
  (rcases pm_lt8 hi with rfl | rfl | rfl | rfl | rfl | rfl | rfl | rfl) <;> cases v0 <;> cases v1 <;> exact (pm_ev_step _ _ _ _).trans rfl
set_option maxRecDepth 20000 in
theorem s880_281_2 {sc : pm_Sc} (d : Nat) (i : Nat) (v0 : Bool) (v1 : Bool) (v2 : Int32) (x : Nat → Nat → Int32) (w : Nat → Nat → Bool) (f : Nat → Nat → Nat) (hi : i < 8) : pm_ev (pm_call pm_Tf sc (d + 0)) sc 0 pm_c88 287 [(5, pm_bi v0), (4, pm_bi v1), (3, .inl (Int32.ofNat (0 + i))), (0, pm_r 67), (1, .inl 0), (2, .inl (Int32.ofNat i))] [pm_b (q79 (0 + i) (pm_up x 76 (0 + i) v2) w f)] (pm_u (pm_up x 76 (0 + i) v2) w f) = (if (q79 (0 + i) (pm_up x 76 (0 + i) v2) w f) = true then pm_ev (pm_call pm_Tf sc (d + 0)) sc 0 pm_c88 304 [(5, pm_bi v0), (4, pm_bi v1), (3, .inl (Int32.ofNat (0 + i))), (0, pm_r 67), (1, .inl 0), (2, .inl (Int32.ofNat i))] [] (pm_u (pm_up (pm_up x 76 (0 + i) v2) 82 (0 + i) 0) (pm_up w 80 (0 + i) false) f) else pm_ev (pm_call pm_Tf sc (d + 0)) sc 0 pm_c88 304 [(5, pm_bi v0), (4, pm_bi v1), (3, .inl (Int32.ofNat (0 + i))), (0, pm_r 67), (1, .inl 0), (2, .inl (Int32.ofNat i))] [] (pm_u (pm_up x 76 (0 + i) v2) w f)) := by
  (rcases pm_lt8 hi with rfl | rfl | rfl | rfl | rfl | rfl | rfl | rfl) <;> cases v0 <;> cases v1 <;> exact (pm_ev_iter [40, 84, 254, 281, 284, 304, 325] 3000 _ _ _ _).trans rfl
def q880_281 (i : Nat) (v0 : Bool) (v1 : Bool) (v2 : Int32) (x : Nat → Nat → Int32) (w : Nat → Nat → Bool) (f : Nat → Nat → Nat) : (Nat → Nat → Int32) × (Nat → Nat → Bool) := (if (q79 (0 + i) (pm_up x 76 (0 + i) v2) w f) = true then q880_304 i v0 v1 (pm_up (pm_up x 76 (0 + i) v2) 82 (0 + i) 0) (pm_up w 80 (0 + i) false) f else q880_304 i v0 v1 (pm_up x 76 (0 + i) v2) w f)
theorem e880_281 {sc : pm_Sc} (d : Nat) (i : Nat) (v0 : Bool) (v1 : Bool) (v2 : Int32) (x : Nat → Nat → Int32) (w : Nat → Nat → Bool) (f : Nat → Nat → Nat) (hi : i < 8) : pm_ev (pm_call pm_Tf sc (d + 0)) sc 0 pm_c88 281 [(5, pm_bi v0), (4, pm_bi v1), (3, .inl (Int32.ofNat (0 + i))), (0, pm_r 67), (1, .inl 0), (2, .inl (Int32.ofNat i))] [.inl v2, .inl (Int32.ofNat (0 + i)), pm_r 76] (pm_u x w f) = some (pm_h0 f (q880_281 i v0 v1 v2 x w f)) := (s880_281_0 d i v0 v1 v2 x w f hi).trans (((s880_281_1 d i v0 v1 v2 x w f hi).trans ((pm_call1_of (z79 (d + 0) (0 + i) (pm_up x 76 (0 + i) v2) w f (by omega))).trans ((s880_281_2 d i v0 v1 v2 x w f hi).trans (pm_iteG (g := (fun t => some (pm_h0 f t))) (fun _ => e880_304 d  i v0 v1 (pm_up (pm_up x 76 (0 + i) v2) 82 (0 + i) 0) (pm_up w 80 (0 + i) false) f hi) (fun _ => e880_304 d  i v0 v1 (pm_up x 76 (0 + i) v2) w f hi))))))
set_option maxRecDepth 20000 in
theorem s880_254_0 {sc : pm_Sc} (d : Nat) (i : Nat) (b0 : Bool) (v1 : Bool) (x : Nat → Nat → Int32) (w : Nat → Nat → Bool) (f : Nat → Nat → Nat) (hi : i < 8) : pm_ev (pm_call pm_Tf sc (d + 0)) sc 0 pm_c88 254 [(5, pm_bi b0), (4, pm_bi v1), (3, .inl (Int32.ofNat (0 + i))), (0, pm_r 67), (1, .inl 0), (2, .inl (Int32.ofNat i))] [] (pm_u x w f) = (if (x 76 (0 + i)) ≤ 100 then pm_ev (pm_call pm_Tf sc (d + 0)) sc 0 pm_c88 281 [(5, pm_bi b0), (4, pm_bi v1), (3, .inl (Int32.ofNat (0 + i))), (0, pm_r 67), (1, .inl 0), (2, .inl (Int32.ofNat i))] [.inl (x 76 (0 + i)), .inl (Int32.ofNat (0 + i)), pm_r 76] (pm_u x w f) else pm_ev (pm_call pm_Tf sc (d + 0)) sc 0 pm_c88 281 [(5, pm_bi b0), (4, pm_bi v1), (3, .inl (Int32.ofNat (0 + i))), (0, pm_r 67), (1, .inl 0), (2, .inl (Int32.ofNat i))] [.inl 100, .inl (Int32.ofNat (0 + i)), pm_r 76] (pm_u x w f)) := by
  (rcases pm_lt8 hi with rfl | rfl | rfl | rfl | rfl | rfl | rfl | rfl) <;> cases b0 <;> cases v1 <;> exact (pm_ev_iter [40, 84, 254, 281, 284, 304, 325] 3000 _ _ _ _).trans rfl
def q880_254 (i : Nat) (b0 : Bool) (v1 : Bool) (x : Nat → Nat → Int32) (w : Nat → Nat → Bool) (f : Nat → Nat → Nat) : (Nat → Nat → Int32) × (Nat → Nat → Bool) := (if (x 76 (0 + i)) ≤ 100 then q880_281 i b0 v1 (x 76 (0 + i)) x w f else q880_281 i b0 v1 100 x w f)
theorem e880_254 {sc : pm_Sc} (d : Nat) (i : Nat) (b0 : Bool) (v1 : Bool) (x : Nat → Nat → Int32) (w : Nat → Nat → Bool) (f : Nat → Nat → Nat) (hi : i < 8) : pm_ev (pm_call pm_Tf sc (d + 0)) sc 0 pm_c88 254 [(5, pm_bi b0), (4, pm_bi v1), (3, .inl (Int32.ofNat (0 + i))), (0, pm_r 67), (1, .inl 0), (2, .inl (Int32.ofNat i))] [] (pm_u x w f) = some (pm_h0 f (q880_254 i b0 v1 x w f)) := (s880_254_0 d i b0 v1 x w f hi).trans (pm_iteG (g := (fun t => some (pm_h0 f t))) (fun _ => e880_281 d  i b0 v1 (x 76 (0 + i)) x w f hi) (fun _ => e880_281 d  i b0 v1 100 x w f hi))
set_option maxRecDepth 20000 in
theorem s880_84_0 {sc : pm_Sc} (d : Nat) (i : Nat) (v0 : Bool) (b1 : Bool) (x : Nat → Nat → Int32) (w : Nat → Nat → Bool) (f : Nat → Nat → Nat) (hi : i < 8) : pm_ev (pm_call pm_Tf sc (d + 0)) sc 0 pm_c88 84 [(4, pm_bi v0), (3, .inl (Int32.ofNat (0 + i))), (0, pm_r 67), (1, .inl 0), (2, .inl (Int32.ofNat i))] [pm_bi b1, .inl (Int32.ofNat (0 + i)), pm_r 79] (pm_u x w f) = (if (w 78 (0 + i)) = true then pm_ev (pm_call pm_Tf sc (d + 0)) sc 0 pm_c88 254 [(5, .inl 0), (4, pm_bi v0), (3, .inl (Int32.ofNat (0 + i))), (0, pm_r 67), (1, .inl 0), (2, .inl (Int32.ofNat i))] [] (pm_u (pm_up x 76 (0 + i) ((x 76 (0 + i)) + (10 : Int32))) (pm_up w 79 (0 + i) b1) f) else (if b1 = true then pm_ev (pm_call pm_Tf sc (d + 0)) sc 0 pm_c88 254 [(5, .inl 0), (4, pm_bi v0), (3, .inl (Int32.ofNat (0 + i))), (0, pm_r 67), (1, .inl 0), (2, .inl (Int32.ofNat i))] [] (pm_u (pm_up x 76 (0 + i) ((x 76 (0 + i)) + (5 : Int32))) (pm_up w 79 (0 + i) b1) f) else (if (x 76 (0 + i)) ≤ 0 then (if (x 76 (0 + i)) ≤ 5 then pm_ev (pm_call pm_Tf sc (d + 0)) sc 0 pm_c88 254 [(5, .inl 0), (4, pm_bi v0), (3, .inl (Int32.ofNat (0 + i))), (0, pm_r 67), (1, .inl 0), (2, .inl (Int32.ofNat i))] [] (pm_u (pm_up x 76 (0 + i) 0) (pm_up w 79 (0 + i) b1) f) else pm_ev (pm_call pm_Tf sc (d + 0)) sc 0 pm_c88 254 [(5, .inl 0), (4, pm_bi v0), (3, .inl (Int32.ofNat (0 + i))), (0, pm_r 67), (1, .inl 0), (2, .inl (Int32.ofNat i))] [] (pm_u (pm_up x 76 (0 + i) ((x 76 (0 + i)) - (5 : Int32))) (pm_up w 79 (0 + i) b1) f)) else (if (x 81 (0 + i)) ≤ 0 then (if (x 76 (0 + i)) ≤ 5 then pm_ev (pm_call pm_Tf sc (d + 0)) sc 0 pm_c88 254 [(5, .inl 0), (4, pm_bi v0), (3, .inl (Int32.ofNat (0 + i))), (0, pm_r 67), (1, .inl 0), (2, .inl (Int32.ofNat i))] [] (pm_u (pm_up x 76 (0 + i) 0) (pm_up w 79 (0 + i) b1) f) else pm_ev (pm_call pm_Tf sc (d + 0)) sc 0 pm_c88 254 [(5, .inl 0), (4, pm_bi v0), (3, .inl (Int32.ofNat (0 + i))), (0, pm_r 67), (1, .inl 0), (2, .inl (Int32.ofNat i))] [] (pm_u (pm_up x 76 (0 + i) ((x 76 (0 + i)) - (5 : Int32))) (pm_up w 79 (0 + i) b1) f)) else (if 40 < (x 76 (0 + i)) then (if (x 76 (0 + i)) ≤ 5 then pm_ev (pm_call pm_Tf sc (d + 0)) sc 0 pm_c88 254 [(5, .inl 0), (4, pm_bi v0), (3, .inl (Int32.ofNat (0 + i))), (0, pm_r 67), (1, .inl 0), (2, .inl (Int32.ofNat i))] [] (pm_u (pm_up x 76 (0 + i) 0) (pm_up w 79 (0 + i) b1) f) else pm_ev (pm_call pm_Tf sc (d + 0)) sc 0 pm_c88 254 [(5, .inl 0), (4, pm_bi v0), (3, .inl (Int32.ofNat (0 + i))), (0, pm_r 67), (1, .inl 0), (2, .inl (Int32.ofNat i))] [] (pm_u (pm_up x 76 (0 + i) ((x 76 (0 + i)) - (5 : Int32))) (pm_up w 79 (0 + i) b1) f)) else (if 3 ≤ (x 82 (0 + i)) then (if (w 80 (0 + i)) = true then pm_ev (pm_call pm_Tf sc (d + 0)) sc 0 pm_c88 254 [(5, .inl 0), (4, pm_bi v0), (3, .inl (Int32.ofNat (0 + i))), (0, pm_r 67), (1, .inl 0), (2, .inl (Int32.ofNat i))] [] (pm_u (pm_up x 82 (0 + i) ((x 82 (0 + i)) + (0 : Int32))) (pm_up (pm_up w 79 (0 + i) b1) 80 (0 + i) true) f) else pm_ev (pm_call pm_Tf sc (d + 0)) sc 0 pm_c88 254 [(5, .inl 0), (4, pm_bi v0), (3, .inl (Int32.ofNat (0 + i))), (0, pm_r 67), (1, .inl 0), (2, .inl (Int32.ofNat i))] [] (pm_u (pm_up x 82 (0 + i) ((x 82 (0 + i)) + (0 : Int32))) (pm_up (pm_up w 79 (0 + i) b1) 80 (0 + i) true) f)) else (if (w 80 (0 + i)) = true then pm_ev (pm_call pm_Tf sc (d + 0)) sc 0 pm_c88 254 [(5, .inl 1), (4, pm_bi v0), (3, .inl (Int32.ofNat (0 + i))), (0, pm_r 67), (1, .inl 0), (2, .inl (Int32.ofNat i))] [] (pm_u (pm_up x 82 (0 + i) ((x 82 (0 + i)) + (1 : Int32))) (pm_up (pm_up w 79 (0 + i) b1) 80 (0 + i) true) f) else pm_ev (pm_call pm_Tf sc (d + 0)) sc 0 pm_c88 254 [(5, .inl 1), (4, pm_bi v0), (3, .inl (Int32.ofNat (0 + i))), (0, pm_r 67), (1, .inl 0), (2, .inl (Int32.ofNat i))] [] (pm_u (pm_up x 82 (0 + i) ((x 82 (0 + i)) + (1 : Int32))) (pm_up (pm_up w 79 (0 + i) b1) 80 (0 + i) false) f)))))))) := by
  (rcases pm_lt8 hi with rfl | rfl | rfl | rfl | rfl | rfl | rfl | rfl) <;> cases v0 <;> cases b1 <;> exact (pm_ev_iter [40, 84, 254, 281, 284, 304, 325] 3000 _ _ _ _).trans rfl
def q880_84 (i : Nat) (v0 : Bool) (b1 : Bool) (x : Nat → Nat → Int32) (w : Nat → Nat → Bool) (f : Nat → Nat → Nat) : (Nat → Nat → Int32) × (Nat → Nat → Bool) := (if (w 78 (0 + i)) = true then q880_254 i false v0 (pm_up x 76 (0 + i) ((x 76 (0 + i)) + (10 : Int32))) (pm_up w 79 (0 + i) b1) f else (if b1 = true then q880_254 i false v0 (pm_up x 76 (0 + i) ((x 76 (0 + i)) + (5 : Int32))) (pm_up w 79 (0 + i) b1) f else (if (x 76 (0 + i)) ≤ 0 then (if (x 76 (0 + i)) ≤ 5 then q880_254 i false v0 (pm_up x 76 (0 + i) 0) (pm_up w 79 (0 + i) b1) f else q880_254 i false v0 (pm_up x 76 (0 + i) ((x 76 (0 + i)) - (5 : Int32))) (pm_up w 79 (0 + i) b1) f) else (if (x 81 (0 + i)) ≤ 0 then (if (x 76 (0 + i)) ≤ 5 then q880_254 i false v0 (pm_up x 76 (0 + i) 0) (pm_up w 79 (0 + i) b1) f else q880_254 i false v0 (pm_up x 76 (0 + i) ((x 76 (0 + i)) - (5 : Int32))) (pm_up w 79 (0 + i) b1) f) else (if 40 < (x 76 (0 + i)) then (if (x 76 (0 + i)) ≤ 5 then q880_254 i false v0 (pm_up x 76 (0 + i) 0) (pm_up w 79 (0 + i) b1) f else q880_254 i false v0 (pm_up x 76 (0 + i) ((x 76 (0 + i)) - (5 : Int32))) (pm_up w 79 (0 + i) b1) f) else (if 3 ≤ (x 82 (0 + i)) then (if (w 80 (0 + i)) = true then q880_254 i false v0 (pm_up x 82 (0 + i) ((x 82 (0 + i)) + (0 : Int32))) (pm_up (pm_up w 79 (0 + i) b1) 80 (0 + i) true) f else q880_254 i false v0 (pm_up x 82 (0 + i) ((x 82 (0 + i)) + (0 : Int32))) (pm_up (pm_up w 79 (0 + i) b1) 80 (0 + i) true) f) else (if (w 80 (0 + i)) = true then q880_254 i true v0 (pm_up x 82 (0 + i) ((x 82 (0 + i)) + (1 : Int32))) (pm_up (pm_up w 79 (0 + i) b1) 80 (0 + i) true) f else q880_254 i true v0 (pm_up x 82 (0 + i) ((x 82 (0 + i)) + (1 : Int32))) (pm_up (pm_up w 79 (0 + i) b1) 80 (0 + i) false) f)))))))
theorem e880_84 {sc : pm_Sc} (d : Nat) (i : Nat) (v0 : Bool) (b1 : Bool) (x : Nat → Nat → Int32) (w : Nat → Nat → Bool) (f : Nat → Nat → Nat) (hi : i < 8) : pm_ev (pm_call pm_Tf sc (d + 0)) sc 0 pm_c88 84 [(4, pm_bi v0), (3, .inl (Int32.ofNat (0 + i))), (0, pm_r 67), (1, .inl 0), (2, .inl (Int32.ofNat i))] [pm_bi b1, .inl (Int32.ofNat (0 + i)), pm_r 79] (pm_u x w f) = some (pm_h0 f (q880_84 i v0 b1 x w f)) := (s880_84_0 d i v0 b1 x w f hi).trans (pm_iteG (g := (fun t => some (pm_h0 f t))) (fun _ => e880_254 d  i false v0 (pm_up x 76 (0 + i) ((x 76 (0 + i)) + (10 : Int32))) (pm_up w 79 (0 + i) b1) f hi) (fun _ => pm_iteG (g := (fun t => some (pm_h0 f t))) (fun _ => e880_254 d  i false v0 (pm_up x 76 (0 + i) ((x 76 (0 + i)) + (5 : Int32))) (pm_up w 79 (0 + i) b1) f hi) (fun _ => pm_iteG (g := (fun t => some (pm_h0 f t))) (fun _ => pm_iteG (g := (fun t => some (pm_h0 f t))) (fun _ => e880_254 d  i false v0 (pm_up x 76 (0 + i) 0) (pm_up w 79 (0 + i) b1) f hi) (fun _ => e880_254 d  i false v0 (pm_up x 76 (0 + i) ((x 76 (0 + i)) - (5 : Int32))) (pm_up w 79 (0 + i) b1) f hi)) (fun _ => pm_iteG (g := (fun t => some (pm_h0 f t))) (fun _ => pm_iteG (g := (fun t => some (pm_h0 f t))) (fun _ => e880_254 d  i false v0 (pm_up x 76 (0 + i) 0) (pm_up w 79 (0 + i) b1) f hi) (fun _ => e880_254 d  i false v0 (pm_up x 76 (0 + i) ((x 76 (0 + i)) - (5 : Int32))) (pm_up w 79 (0 + i) b1) f hi)) (fun _ => pm_iteG (g := (fun t => some (pm_h0 f t))) (fun _ => pm_iteG (g := (fun t => some (pm_h0 f t))) (fun _ => e880_254 d  i false v0 (pm_up x 76 (0 + i) 0) (pm_up w 79 (0 + i) b1) f hi) (fun _ => e880_254 d  i false v0 (pm_up x 76 (0 + i) ((x 76 (0 + i)) - (5 : Int32))) (pm_up w 79 (0 + i) b1) f hi)) (fun _ => pm_iteG (g := (fun t => some (pm_h0 f t))) (fun _ => pm_iteG (g := (fun t => some (pm_h0 f t))) (fun _ => e880_254 d  i false v0 (pm_up x 82 (0 + i) ((x 82 (0 + i)) + (0 : Int32))) (pm_up (pm_up w 79 (0 + i) b1) 80 (0 + i) true) f hi) (fun _ => e880_254 d  i false v0 (pm_up x 82 (0 + i) ((x 82 (0 + i)) + (0 : Int32))) (pm_up (pm_up w 79 (0 + i) b1) 80 (0 + i) true) f hi)) (fun _ => pm_iteG (g := (fun t => some (pm_h0 f t))) (fun _ => e880_254 d  i true v0 (pm_up x 82 (0 + i) ((x 82 (0 + i)) + (1 : Int32))) (pm_up (pm_up w 79 (0 + i) b1) 80 (0 + i) true) f hi) (fun _ => e880_254 d  i true v0 (pm_up x 82 (0 + i) ((x 82 (0 + i)) + (1 : Int32))) (pm_up (pm_up w 79 (0 + i) b1) 80 (0 + i) false) f hi))))))))
set_option maxRecDepth 20000 in
theorem s880_40_0 {sc : pm_Sc} (d : Nat) (i : Nat) (b0 : Bool) (x : Nat → Nat → Int32) (w : Nat → Nat → Bool) (f : Nat → Nat → Nat) (hi : i < 8) : pm_ev (pm_call pm_Tf sc (d + 0)) sc 0 pm_c88 40 [(3, .inl (Int32.ofNat (0 + i))), (0, pm_r 67), (1, .inl 0), (2, .inl (Int32.ofNat i))] [pm_bi b0] (pm_u x w f) = (if (x 69 0) = 0 then (if (x 83 (0 + i)) ≤ 0 then pm_ev (pm_call pm_Tf sc (d + 0)) sc 0 pm_c88 84 [(4, pm_bi b0), (3, .inl (Int32.ofNat (0 + i))), (0, pm_r 67), (1, .inl 0), (2, .inl (Int32.ofNat i))] [.inl 0, .inl (Int32.ofNat (0 + i)), pm_r 79] (pm_u x w f) else pm_ev (pm_call pm_Tf sc (d + 0)) sc 0 pm_c88 84 [(4, pm_bi b0), (3, .inl (Int32.ofNat (0 + i))), (0, pm_r 67), (1, .inl 0), (2, .inl (Int32.ofNat i))] [.inl 1, .inl (Int32.ofNat (0 + i)), pm_r 79] (pm_u x w f)) else (if (w 77 (0 + i)) = true then (if (x 83 (0 + i)) ≤ 0 then pm_ev (pm_call pm_Tf sc (d + 0)) sc 0 pm_c88 84 [(4, pm_bi b0), (3, .inl (Int32.ofNat (0 + i))), (0, pm_r 67), (1, .inl 0), (2, .inl (Int32.ofNat i))] [.inl 0, .inl (Int32.ofNat (0 + i)), pm_r 79] (pm_u x w f) else pm_ev (pm_call pm_Tf sc (d + 0)) sc 0 pm_c88 84 [(4, pm_bi b0), (3, .inl (Int32.ofNat (0 + i))), (0, pm_r 67), (1, .inl 0), (2, .inl (Int32.ofNat i))] [.inl 1, .inl (Int32.ofNat (0 + i)), pm_r 79] (pm_u x w f)) else (if b0 = true then (if (x 83 (0 + i)) ≤ 0 then pm_ev (pm_call pm_Tf sc (d + 0)) sc 0 pm_c88 84 [(4, pm_bi b0), (3, .inl (Int32.ofNat (0 + i))), (0, pm_r 67), (1, .inl 0), (2, .inl (Int32.ofNat i))] [.inl 0, .inl (Int32.ofNat (0 + i)), pm_r 79] (pm_u x w f) else pm_ev (pm_call pm_Tf sc (d + 0)) sc 0 pm_c88 84 [(4, pm_bi b0), (3, .inl (Int32.ofNat (0 + i))), (0, pm_r 67), (1, .inl 0), (2, .inl (Int32.ofNat i))] [.inl 1, .inl (Int32.ofNat (0 + i)), pm_r 79] (pm_u x w f)) else pm_ev (pm_call pm_Tf sc (d + 0)) sc 0 pm_c88 84 [(4, pm_bi b0), (3, .inl (Int32.ofNat (0 + i))), (0, pm_r 67), (1, .inl 0), (2, .inl (Int32.ofNat i))] [.inl 1, .inl (Int32.ofNat (0 + i)), pm_r 79] (pm_u x w f)))) := by
  (rcases pm_lt8 hi with rfl | rfl | rfl | rfl | rfl | rfl | rfl | rfl) <;> cases b0 <;> exact (pm_ev_iter [40, 84, 254, 281, 284, 304, 325] 3000 _ _ _ _).trans rfl
def q880_40 (i : Nat) (b0 : Bool) (x : Nat → Nat → Int32) (w : Nat → Nat → Bool) (f : Nat → Nat → Nat) : (Nat → Nat → Int32) × (Nat → Nat → Bool) := (if (x 69 0) = 0 then (if (x 83 (0 + i)) ≤ 0 then q880_84 i b0 false x w f else q880_84 i b0 true x w f) else (if (w 77 (0 + i)) = true then (if (x 83 (0 + i)) ≤ 0 then q880_84 i b0 false x w f else q880_84 i b0 true x w f) else (if b0 = true then (if (x 83 (0 + i)) ≤ 0 then q880_84 i b0 false x w f else q880_84 i b0 true x w f) else q880_84 i b0 true x w f)))
theorem e880_40 {sc : pm_Sc} (d : Nat) (i : Nat) (b0 : Bool) (x : Nat → Nat → Int32) (w : Nat → Nat → Bool) (f : Nat → Nat → Nat) (hi : i < 8) : pm_ev (pm_call pm_Tf sc (d + 0)) sc 0 pm_c88 40 [(3, .inl (Int32.ofNat (0 + i))), (0, pm_r 67), (1, .inl 0), (2, .inl (Int32.ofNat i))] [pm_bi b0] (pm_u x w f) = some (pm_h0 f (q880_40 i b0 x w f)) := (s880_40_0 d i b0 x w f hi).trans (pm_iteG (g := (fun t => some (pm_h0 f t))) (fun _ => pm_iteG (g := (fun t => some (pm_h0 f t))) (fun _ => e880_84 d  i b0 false x w f hi) (fun _ => e880_84 d  i b0 true x w f hi)) (fun _ => pm_iteG (g := (fun t => some (pm_h0 f t))) (fun _ => pm_iteG (g := (fun t => some (pm_h0 f t))) (fun _ => e880_84 d  i b0 false x w f hi) (fun _ => e880_84 d  i b0 true x w f hi)) (fun _ => pm_iteG (g := (fun t => some (pm_h0 f t))) (fun _ => pm_iteG (g := (fun t => some (pm_h0 f t))) (fun _ => e880_84 d  i b0 false x w f hi) (fun _ => e880_84 d  i b0 true x w f hi)) (fun _ => e880_84 d  i b0 true x w f hi))))
set_option maxRecDepth 20000 in
theorem s880_0 {sc : pm_Sc} (d : Nat) (i : Nat) (x : Nat → Nat → Int32) (w : Nat → Nat → Bool) (f : Nat → Nat → Nat) (hi : i < 8) : pm_ev (pm_call pm_Tf sc (d + 0)) sc 0 pm_c88 0 [(0, pm_r 67), (1, .inl 0), (2, .inl (Int32.ofNat i))] [] (pm_u x w f) = (if (w 72 0) = true then (if (((x 73 3) >>> ((Int32.ofNat i) &&& 31)) &&& (1 : Int32)) = 1 then pm_ev (pm_call pm_Tf sc (d + 0)) sc 0 pm_c88 40 [(3, .inl (Int32.ofNat (0 + i))), (0, pm_r 67), (1, .inl 0), (2, .inl (Int32.ofNat i))] [.inl 1] (pm_u x w f) else pm_ev (pm_call pm_Tf sc (d + 0)) sc 0 pm_c88 40 [(3, .inl (Int32.ofNat (0 + i))), (0, pm_r 67), (1, .inl 0), (2, .inl (Int32.ofNat i))] [.inl 0] (pm_u x w f)) else pm_ev (pm_call pm_Tf sc (d + 0)) sc 0 pm_c88 40 [(3, .inl (Int32.ofNat (0 + i))), (0, pm_r 67), (1, .inl 0), (2, .inl (Int32.ofNat i))] [.inl 0] (pm_u x w f)) := by
  (rcases pm_lt8 hi with rfl | rfl | rfl | rfl | rfl | rfl | rfl | rfl) <;> exact (pm_ev_iter [40, 84, 254, 281, 284, 304, 325] 3000 _ _ _ _).trans rfl
def q880 (i : Nat) (x : Nat → Nat → Int32) (w : Nat → Nat → Bool) (f : Nat → Nat → Nat) : (Nat → Nat → Int32) × (Nat → Nat → Bool) := (if (w 72 0) = true then (if (((x 73 3) >>> ((Int32.ofNat i) &&& 31)) &&& (1 : Int32)) = 1 then q880_40 i true x w f else q880_40 i false x w f) else q880_40 i false x w f)
theorem e880 {sc : pm_Sc} (d : Nat) (i : Nat) (x : Nat → Nat → Int32) (w : Nat → Nat → Bool) (f : Nat → Nat → Nat) (hi : i < 8) : pm_ev (pm_call pm_Tf sc (d + 0)) sc 0 pm_c88 0 [(0, pm_r 67), (1, .inl 0), (2, .inl (Int32.ofNat i))] [] (pm_u x w f) = some (pm_h0 f (q880 i x w f)) := (s880_0 d i x w f hi).trans (pm_iteG (g := (fun t => some (pm_h0 f t))) (fun _ => pm_iteG (g := (fun t => some (pm_h0 f t))) (fun _ => e880_40 d  i true x w f hi) (fun _ => e880_40 d  i false x w f hi)) (fun _ => e880_40 d  i false x w f hi))
theorem z880 {sc : pm_Sc} (d : Nat) (i : Nat) (x : Nat → Nat → Int32) (w : Nat → Nat → Bool) (f : Nat → Nat → Nat) (hi : i < 8) : pm_call pm_Tf sc (d + 1) 88 [pm_r 67, .inl 0, .inl (Int32.ofNat i)] (pm_u x w f) = some (pm_h0 f (q880 i x w f)) := e880 d i x w f hi
set_option maxRecDepth 20000 in
theorem s881_325_0 {sc : pm_Sc} (d : Nat) (i : Nat) (v0 : Bool) (v1 : Bool) (v2 : Int32) (v3 : Int32) (x : Nat → Nat → Int32) (w : Nat → Nat → Bool) (f : Nat → Nat → Nat) (hi : i < 8) : pm_ev (pm_call pm_Tf sc (d + 0)) sc 0 pm_c88 325 [(5, pm_bi v0), (4, pm_bi v1), (3, .inl (Int32.ofNat (8 + i))), (0, pm_r 67), (1, .inl 1), (2, .inl (Int32.ofNat i))] [.inl v2, .inl v3, .inl (Int32.ofNat (8 + i)), pm_r 81] (pm_u x w f) = (if v0 = true then some (none, pm_u (pm_up (pm_up x 81 (8 + i) (v3 - v2)) 83 (8 + i) 40) w f) else (if (x 83 (8 + i)) ≤ 0 then some (none, pm_u (pm_up (pm_up x 81 (8 + i) (v3 - v2)) 83 (8 + i) 0) w f) else some (none, pm_u (pm_up (pm_up x 81 (8 + i) (v3 - v2)) 83 (8 + i) ((x 83 (8 + i)) - (1 : Int32))) w f))) := by
  (rcases pm_lt8 hi with rfl | rfl | rfl | rfl | rfl | rfl | rfl | rfl) <;> cases v0 <;> cases v1 <;> exact (pm_ev_iter [40, 84, 254, 281, 284, 304, 325] 3000 _ _ _ _).trans rfl
def q881_325 (i : Nat) (v0 : Bool) (v1 : Bool) (v2 : Int32) (v3 : Int32) (x : Nat → Nat → Int32) (w : Nat → Nat → Bool) (f : Nat → Nat → Nat) : (Nat → Nat → Int32) × (Nat → Nat → Bool) := (if v0 = true then (pm_up (pm_up x 81 (8 + i) (v3 - v2)) 83 (8 + i) 40, w) else (if (x 83 (8 + i)) ≤ 0 then (pm_up (pm_up x 81 (8 + i) (v3 - v2)) 83 (8 + i) 0, w) else (pm_up (pm_up x 81 (8 + i) (v3 - v2)) 83 (8 + i) ((x 83 (8 + i)) - (1 : Int32)), w)))
theorem e881_325 {sc : pm_Sc} (d : Nat) (i : Nat) (v0 : Bool) (v1 : Bool) (v2 : Int32) (v3 : Int32) (x : Nat → Nat → Int32) (w : Nat → Nat → Bool) (f : Nat → Nat → Nat) (hi : i < 8) : pm_ev (pm_call pm_Tf sc (d + 0)) sc 0 pm_c88 325 [(5, pm_bi v0), (4, pm_bi v1), (3, .inl (Int32.ofNat (8 + i))), (0, pm_r 67), (1, .inl 1), (2, .inl (Int32.ofNat i))] [.inl v2, .inl v3, .inl (Int32.ofNat (8 + i)), pm_r 81] (pm_u x w f) = some (pm_h0 f (q881_325 i v0 v1 v2 v3 x w f)) := (s881_325_0 d i v0 v1 v2 v3 x w f hi).trans (pm_iteG (g := (fun t => some (pm_h0 f t))) (fun _ => rfl) (fun _ => pm_iteG (g := (fun t => some (pm_h0 f t))) (fun _ => rfl) (fun _ => rfl)))
set_option maxRecDepth 20000 in
theorem s881_304_0 {sc : pm_Sc} (d : Nat) (i : Nat) (v0 : Bool) (v1 : Bool) (x : Nat → Nat → Int32) (w : Nat → Nat → Bool) (f : Nat → Nat → Nat) (hi : i < 8) : pm_ev (pm_call pm_Tf sc (d + 0)) sc 0 pm_c88 304 [(5, pm_bi v0), (4, pm_bi v1), (3, .inl (Int32.ofNat (8 + i))), (0, pm_r 67), (1, .inl 1), (2, .inl (Int32.ofNat i))] [] (pm_u x w f) = (if (x 81 (8 + i)) ≤ 0 then pm_ev (pm_call pm_Tf sc (d + 0)) sc 0 pm_c88 325 [(5, pm_bi v0), (4, pm_bi v1), (3, .inl (Int32.ofNat (8 + i))), (0, pm_r 67), (1, .inl 1), (2, .inl (Int32.ofNat i))] [.inl 0, .inl (x 81 (8 + i)), .inl (Int32.ofNat (8 + i)), pm_r 81] (pm_u x w f) else pm_ev (pm_call pm_Tf sc (d + 0)) sc 0 pm_c88 325 [(5, pm_bi v0), (4, pm_bi v1), (3, .inl (Int32.ofNat (8 + i))), (0, pm_r 67), (1, .inl 1), (2, .inl (Int32.ofNat i))] [.inl 1, .inl (x 81 (8 + i)), .inl (Int32.ofNat (8 + i)), pm_r 81] (pm_u x w f)) := by
  (rcases pm_lt8 hi with rfl | rfl | rfl | rfl | rfl | rfl | rfl | rfl) <;> cases v0 <;> cases v1 <;> exact (pm_ev_iter [40, 84, 254, 281, 284, 304, 325] 3000 _ _ _ _).trans rfl
def q881_304 (i : Nat) (v0 : Bool) (v1 : Bool) (x : Nat → Nat → Int32) (w : Nat → Nat → Bool) (f : Nat → Nat → Nat) : (Nat → Nat → Int32) × (Nat → Nat → Bool) := (if (x 81 (8 + i)) ≤ 0 then q881_325 i v0 v1 0 (x 81 (8 + i)) x w f else q881_325 i v0 v1 1 (x 81 (8 + i)) x w f)
theorem e881_304 {sc : pm_Sc} (d : Nat) (i : Nat) (v0 : Bool) (v1 : Bool) (x : Nat → Nat → Int32) (w : Nat → Nat → Bool) (f : Nat → Nat → Nat) (hi : i < 8) : pm_ev (pm_call pm_Tf sc (d + 0)) sc 0 pm_c88 304 [(5, pm_bi v0), (4, pm_bi v1), (3, .inl (Int32.ofNat (8 + i))), (0, pm_r 67), (1, .inl 1), (2, .inl (Int32.ofNat i))] [] (pm_u x w f) = some (pm_h0 f (q881_304 i v0 v1 x w f)) := (s881_304_0 d i v0 v1 x w f hi).trans (pm_iteG (g := (fun t => some (pm_h0 f t))) (fun _ => e881_325 d  i v0 v1 0 (x 81 (8 + i)) x w f hi) (fun _ => e881_325 d  i v0 v1 1 (x 81 (8 + i)) x w f hi))
set_option maxRecDepth 20000 in
theorem s881_281_0 {sc : pm_Sc} (d : Nat) (i : Nat) (v0 : Bool) (v1 : Bool) (v2 : Int32) (x : Nat → Nat → Int32) (w : Nat → Nat → Bool) (f : Nat → Nat → Nat) (hi : i < 8) : pm_ev (pm_call pm_Tf sc (d + 0)) sc 0 pm_c88 281 [(5, pm_bi v0), (4, pm_bi v1), (3, .inl (Int32.ofNat (8 + i))), (0, pm_r 67), (1, .inl 1), (2, .inl (Int32.ofNat i))] [.inl v2, .inl (Int32.ofNat (8 + i)), pm_r 76] (pm_u x w f) = pm_ev (pm_call pm_Tf sc (d + 0)) sc 0 pm_c88 284 [(5, pm_bi v0), (4, pm_bi v1), (3, .inl (Int32.ofNat (8 + i))), (0, pm_r 67), (1, .inl 1), (2, .inl (Int32.ofNat i))] [.inl (Int32.ofNat (8 + i)), pm_r 67] (pm_u (pm_up x 76 (8 + i) v2) w f) := by
  (rcases pm_lt8 hi with rfl | rfl | rfl | rfl | rfl | rfl | rfl | rfl) <;> cases v0 <;> cases v1 <;> exact (pm_ev_iter [40, 84, 254, 281, 284, 304, 325] 3000 _ _ _ _).trans rfl
theorem s881_281_1 {sc : pm_Sc} (d : Nat) (i : Nat) (v0 : Bool) (v1 : Bool) (v2 : Int32) (x : Nat → Nat → Int32) (w : Nat → Nat → Bool) (f : Nat → Nat → Nat) (hi : i < 8) : pm_ev (pm_call pm_Tf sc (d + 0)) sc 0 pm_c88 284 [(5, pm_bi v0), (4, pm_bi v1), (3, .inl (Int32.ofNat (8 + i))), (0, pm_r 67), (1, .inl 1), (2, .inl (Int32.ofNat i))] [.inl (Int32.ofNat (8 + i)), pm_r 67] (pm_u (pm_up x 76 (8 + i) v2) w f) = pm_call1 (fun v u => pm_ev (pm_call pm_Tf sc (d + 0)) sc 0 pm_c88 287 [(5, pm_bi v0), (4, pm_bi v1), (3, .inl (Int32.ofNat (8 + i))), (0, pm_r 67), (1, .inl 1), (2, .inl (Int32.ofNat i))] (v.toList ++ []) u) none ((pm_call pm_Tf sc (d + 0)) 79 [pm_r 67, .inl (Int32.ofNat (8 + i))] (pm_u (pm_up x 76 (8 + i) v2) w f)) := by
  (rcases pm_lt8 hi with rfl | rfl | rfl | rfl | rfl | rfl | rfl | rfl) <;> cases v0 <;> cases v1 <;> exact (pm_ev_step _ _ _ _).trans rfl
set_option maxRecDepth 20000 in
theorem s881_281_2 {sc : pm_Sc} (d : Nat) (i : Nat) (v0 : Bool) (v1 : Bool) (v2 : Int32) (x : Nat → Nat → Int32) (w : Nat → Nat → Bool) (f : Nat → Nat → Nat) (hi : i < 8) : pm_ev (pm_call pm_Tf sc (d + 0)) sc 0 pm_c88 287 [(5, pm_bi v0), (4, pm_bi v1), (3, .inl (Int32.ofNat (8 + i))), (0, pm_r 67), (1, .inl 1), (2, .inl (Int32.ofNat i))] [pm_b (q79 (8 + i) (pm_up x 76 (8 + i) v2) w f)] (pm_u (pm_up x 76 (8 + i) v2) w f) = (if (q79 (8 + i) (pm_up x 76 (8 + i) v2) w f) = true then pm_ev (pm_call pm_Tf sc (d + 0)) sc 0 pm_c88 304 [(5, pm_bi v0), (4, pm_bi v1), (3, .inl (Int32.ofNat (8 + i))), (0, pm_r 67), (1, .inl 1), (2, .inl (Int32.ofNat i))] [] (pm_u (pm_up (pm_up x 76 (8 + i) v2) 82 (8 + i) 0) (pm_up w 80 (8 + i) false) f) else pm_ev (pm_call pm_Tf sc (d + 0)) sc 0 pm_c88 304 [(5, pm_bi v0), (4, pm_bi v1), (3, .inl (Int32.ofNat (8 + i))), (0, pm_r 67), (1, .inl 1), (2, .inl (Int32.ofNat i))] [] (pm_u (pm_up x 76 (8 + i) v2) w f)) := by
  (rcases pm_lt8 hi with rfl | rfl | rfl | rfl | rfl | rfl | rfl | rfl) <;> cases v0 <;> cases v1 <;> exact (pm_ev_iter [40, 84, 254, 281, 284, 304, 325] 3000 _ _ _ _).trans rfl
def q881_281 (i : Nat) (v0 : Bool) (v1 : Bool) (v2 : Int32) (x : Nat → Nat → Int32) (w : Nat → Nat → Bool) (f : Nat → Nat → Nat) : (Nat → Nat → Int32) × (Nat → Nat → Bool) := (if (q79 (8 + i) (pm_up x 76 (8 + i) v2) w f) = true then q881_304 i v0 v1 (pm_up (pm_up x 76 (8 + i) v2) 82 (8 + i) 0) (pm_up w 80 (8 + i) false) f else q881_304 i v0 v1 (pm_up x 76 (8 + i) v2) w f)
theorem e881_281 {sc : pm_Sc} (d : Nat) (i : Nat) (v0 : Bool) (v1 : Bool) (v2 : Int32) (x : Nat → Nat → Int32) (w : Nat → Nat → Bool) (f : Nat → Nat → Nat) (hi : i < 8) : pm_ev (pm_call pm_Tf sc (d + 0)) sc 0 pm_c88 281 [(5, pm_bi v0), (4, pm_bi v1), (3, .inl (Int32.ofNat (8 + i))), (0, pm_r 67), (1, .inl 1), (2, .inl (Int32.ofNat i))] [.inl v2, .inl (Int32.ofNat (8 + i)), pm_r 76] (pm_u x w f) = some (pm_h0 f (q881_281 i v0 v1 v2 x w f)) := (s881_281_0 d i v0 v1 v2 x w f hi).trans (((s881_281_1 d i v0 v1 v2 x w f hi).trans ((pm_call1_of (z79 (d + 0) (8 + i) (pm_up x 76 (8 + i) v2) w f (by omega))).trans ((s881_281_2 d i v0 v1 v2 x w f hi).trans (pm_iteG (g := (fun t => some (pm_h0 f t))) (fun _ => e881_304 d  i v0 v1 (pm_up (pm_up x 76 (8 + i) v2) 82 (8 + i) 0) (pm_up w 80 (8 + i) false) f hi) (fun _ => e881_304 d  i v0 v1 (pm_up x 76 (8 + i) v2) w f hi))))))
set_option maxRecDepth 20000 in
theorem s881_254_0 {sc : pm_Sc} (d : Nat) (i : Nat) (b0 : Bool) (v1 : Bool) (x : Nat → Nat → Int32) (w : Nat → Nat → Bool) (f : Nat → Nat → Nat) (hi : i < 8) : pm_ev (pm_call pm_Tf sc (d + 0)) sc 0 pm_c88 254 [(5, pm_bi b0), (4, pm_bi v1), (3, .inl (Int32.ofNat (8 + i))), (0, pm_r 67), (1, .inl 1), (2, .inl (Int32.ofNat i))] [] (pm_u x w f) = (if (x 76 (8 + i)) ≤ 100 then pm_ev (pm_call pm_Tf sc (d + 0)) sc 0 pm_c88 281 [(5, pm_bi b0), (4, pm_bi v1), (3, .inl (Int32.ofNat (8 + i))), (0, pm_r 67), (1, .inl 1), (2, .inl (Int32.ofNat i))] [.inl (x 76 (8 + i)), .inl (Int32.ofNat (8 + i)), pm_r 76] (pm_u x w f) else pm_ev (pm_call pm_Tf sc (d + 0)) sc 0 pm_c88 281 [(5, pm_bi b0), (4, pm_bi v1), (3, .inl (Int32.ofNat (8 + i))), (0, pm_r 67), (1, .inl 1), (2, .inl (Int32.ofNat i))] [.inl 100, .inl (Int32.ofNat (8 + i)), pm_r 76] (pm_u x w f)) := by
  (rcases pm_lt8 hi with rfl | rfl | rfl | rfl | rfl | rfl | rfl | rfl) <;> cases b0 <;> cases v1 <;> exact (pm_ev_iter [40, 84, 254, 281, 284, 304, 325] 3000 _ _ _ _).trans rfl
def q881_254 (i : Nat) (b0 : Bool) (v1 : Bool) (x : Nat → Nat → Int32) (w : Nat → Nat → Bool) (f : Nat → Nat → Nat) : (Nat → Nat → Int32) × (Nat → Nat → Bool) := (if (x 76 (8 + i)) ≤ 100 then q881_281 i b0 v1 (x 76 (8 + i)) x w f else q881_281 i b0 v1 100 x w f)
theorem e881_254 {sc : pm_Sc} (d : Nat) (i : Nat) (b0 : Bool) (v1 : Bool) (x : Nat → Nat → Int32) (w : Nat → Nat → Bool) (f : Nat → Nat → Nat) (hi : i < 8) : pm_ev (pm_call pm_Tf sc (d + 0)) sc 0 pm_c88 254 [(5, pm_bi b0), (4, pm_bi v1), (3, .inl (Int32.ofNat (8 + i))), (0, pm_r 67), (1, .inl 1), (2, .inl (Int32.ofNat i))] [] (pm_u x w f) = some (pm_h0 f (q881_254 i b0 v1 x w f)) := (s881_254_0 d i b0 v1 x w f hi).trans (pm_iteG (g := (fun t => some (pm_h0 f t))) (fun _ => e881_281 d  i b0 v1 (x 76 (8 + i)) x w f hi) (fun _ => e881_281 d  i b0 v1 100 x w f hi))
set_option maxRecDepth 20000 in
theorem s881_84_0 {sc : pm_Sc} (d : Nat) (i : Nat) (v0 : Bool) (b1 : Bool) (x : Nat → Nat → Int32) (w : Nat → Nat → Bool) (f : Nat → Nat → Nat) (hi : i < 8) : pm_ev (pm_call pm_Tf sc (d + 0)) sc 0 pm_c88 84 [(4, pm_bi v0), (3, .inl (Int32.ofNat (8 + i))), (0, pm_r 67), (1, .inl 1), (2, .inl (Int32.ofNat i))] [pm_bi b1, .inl (Int32.ofNat (8 + i)), pm_r 79] (pm_u x w f) = (if (w 78 (8 + i)) = true then pm_ev (pm_call pm_Tf sc (d + 0)) sc 0 pm_c88 254 [(5, .inl 0), (4, pm_bi v0), (3, .inl (Int32.ofNat (8 + i))), (0, pm_r 67), (1, .inl 1), (2, .inl (Int32.ofNat i))] [] (pm_u (pm_up x 76 (8 + i) ((x 76 (8 + i)) + (10 : Int32))) (pm_up w 79 (8 + i) b1) f) else (if b1 = true then pm_ev (pm_call pm_Tf sc (d + 0)) sc 0 pm_c88 254 [(5, .inl 0), (4, pm_bi v0), (3, .inl (Int32.ofNat (8 + i))), (0, pm_r 67), (1, .inl 1), (2, .inl (Int32.ofNat i))] [] (pm_u (pm_up x 76 (8 + i) ((x 76 (8 + i)) + (5 : Int32))) (pm_up w 79 (8 + i) b1) f) else (if (x 76 (8 + i)) ≤ 0 then (if (x 76 (8 + i)) ≤ 5 then pm_ev (pm_call pm_Tf sc (d + 0)) sc 0 pm_c88 254 [(5, .inl 0), (4, pm_bi v0), (3, .inl (Int32.ofNat (8 + i))), (0, pm_r 67), (1, .inl 1), (2, .inl (Int32.ofNat i))] [] (pm_u (pm_up x 76 (8 + i) 0) (pm_up w 79 (8 + i) b1) f) else pm_ev (pm_call pm_Tf sc (d + 0)) sc 0 pm_c88 254 [(5, .inl 0), (4, pm_bi v0), (3, .inl (Int32.ofNat (8 + i))), (0, pm_r 67), (1, .inl 1), (2, .inl (Int32.ofNat i))] [] (pm_u (pm_up x 76 (8 + i) ((x 76 (8 + i)) - (5 : Int32))) (pm_up w 79 (8 + i) b1) f)) else (if (x 81 (8 + i)) ≤ 0 then (if (x 76 (8 + i)) ≤ 5 then pm_ev (pm_call pm_Tf sc (d + 0)) sc 0 pm_c88 254 [(5, .inl 0), (4, pm_bi v0), (3, .inl (Int32.ofNat (8 + i))), (0, pm_r 67), (1, .inl 1), (2, .inl (Int32.ofNat i))] [] (pm_u (pm_up x 76 (8 + i) 0) (pm_up w 79 (8 + i) b1) f) else pm_ev (pm_call pm_Tf sc (d + 0)) sc 0 pm_c88 254 [(5, .inl 0), (4, pm_bi v0), (3, .inl (Int32.ofNat (8 + i))), (0, pm_r 67), (1, .inl 1), (2, .inl (Int32.ofNat i))] [] (pm_u (pm_up x 76 (8 + i) ((x 76 (8 + i)) - (5 : Int32))) (pm_up w 79 (8 + i) b1) f)) else (if 40 < (x 76 (8 + i)) then (if (x 76 (8 + i)) ≤ 5 then pm_ev (pm_call pm_Tf sc (d + 0)) sc 0 pm_c88 254 [(5, .inl 0), (4, pm_bi v0), (3, .inl (Int32.ofNat (8 + i))), (0, pm_r 67), (1, .inl 1), (2, .inl (Int32.ofNat i))] [] (pm_u (pm_up x 76 (8 + i) 0) (pm_up w 79 (8 + i) b1) f) else pm_ev (pm_call pm_Tf sc (d + 0)) sc 0 pm_c88 254 [(5, .inl 0), (4, pm_bi v0), (3, .inl (Int32.ofNat (8 + i))), (0, pm_r 67), (1, .inl 1), (2, .inl (Int32.ofNat i))] [] (pm_u (pm_up x 76 (8 + i) ((x 76 (8 + i)) - (5 : Int32))) (pm_up w 79 (8 + i) b1) f)) else (if 3 ≤ (x 82 (8 + i)) then (if (w 80 (8 + i)) = true then pm_ev (pm_call pm_Tf sc (d + 0)) sc 0 pm_c88 254 [(5, .inl 0), (4, pm_bi v0), (3, .inl (Int32.ofNat (8 + i))), (0, pm_r 67), (1, .inl 1), (2, .inl (Int32.ofNat i))] [] (pm_u (pm_up x 82 (8 + i) ((x 82 (8 + i)) + (0 : Int32))) (pm_up (pm_up w 79 (8 + i) b1) 80 (8 + i) true) f) else pm_ev (pm_call pm_Tf sc (d + 0)) sc 0 pm_c88 254 [(5, .inl 0), (4, pm_bi v0), (3, .inl (Int32.ofNat (8 + i))), (0, pm_r 67), (1, .inl 1), (2, .inl (Int32.ofNat i))] [] (pm_u (pm_up x 82 (8 + i) ((x 82 (8 + i)) + (0 : Int32))) (pm_up (pm_up w 79 (8 + i) b1) 80 (8 + i) true) f)) else (if (w 80 (8 + i)) = true then pm_ev (pm_call pm_Tf sc (d + 0)) sc 0 pm_c88 254 [(5, .inl 1), (4, pm_bi v0), (3, .inl (Int32.ofNat (8 + i))), (0, pm_r 67), (1, .inl 1), (2, .inl (Int32.ofNat i))] [] (pm_u (pm_up x 82 (8 + i) ((x 82 (8 + i)) + (1 : Int32))) (pm_up (pm_up w 79 (8 + i) b1) 80 (8 + i) true) f) else pm_ev (pm_call pm_Tf sc (d + 0)) sc 0 pm_c88 254 [(5, .inl 1), (4, pm_bi v0), (3, .inl (Int32.ofNat (8 + i))), (0, pm_r 67), (1, .inl 1), (2, .inl (Int32.ofNat i))] [] (pm_u (pm_up x 82 (8 + i) ((x 82 (8 + i)) + (1 : Int32))) (pm_up (pm_up w 79 (8 + i) b1) 80 (8 + i) false) f)))))))) := by
  (rcases pm_lt8 hi with rfl | rfl | rfl | rfl | rfl | rfl | rfl | rfl) <;> cases v0 <;> cases b1 <;> exact (pm_ev_iter [40, 84, 254, 281, 284, 304, 325] 3000 _ _ _ _).trans rfl
def q881_84 (i : Nat) (v0 : Bool) (b1 : Bool) (x : Nat → Nat → Int32) (w : Nat → Nat → Bool) (f : Nat → Nat → Nat) : (Nat → Nat → Int32) × (Nat → Nat → Bool) := (if (w 78 (8 + i)) = true then q881_254 i false v0 (pm_up x 76 (8 + i) ((x 76 (8 + i)) + (10 : Int32))) (pm_up w 79 (8 + i) b1) f else (if b1 = true then q881_254 i false v0 (pm_up x 76 (8 + i) ((x 76 (8 + i)) + (5 : Int32))) (pm_up w 79 (8 + i) b1) f else (if (x 76 (8 + i)) ≤ 0 then (if (x 76 (8 + i)) ≤ 5 then q881_254 i false v0 (pm_up x 76 (8 + i) 0) (pm_up w 79 (8 + i) b1) f else q881_254 i false v0 (pm_up x 76 (8 + i) ((x 76 (8 + i)) - (5 : Int32))) (pm_up w 79 (8 + i) b1) f) else (if (x 81 (8 + i)) ≤ 0 then (if (x 76 (8 + i)) ≤ 5 then q881_254 i false v0 (pm_up x 76 (8 + i) 0) (pm_up w 79 (8 + i) b1) f else q881_254 i false v0 (pm_up x 76 (8 + i) ((x 76 (8 + i)) - (5 : Int32))) (pm_up w 79 (8 + i) b1) f) else (if 40 < (x 76 (8 + i)) then (if (x 76 (8 + i)) ≤ 5 then q881_254 i false v0 (pm_up x 76 (8 + i) 0) (pm_up w 79 (8 + i) b1) f else q881_254 i false v0 (pm_up x 76 (8 + i) ((x 76 (8 + i)) - (5 : Int32))) (pm_up w 79 (8 + i) b1) f) else (if 3 ≤ (x 82 (8 + i)) then (if (w 80 (8 + i)) = true then q881_254 i false v0 (pm_up x 82 (8 + i) ((x 82 (8 + i)) + (0 : Int32))) (pm_up (pm_up w 79 (8 + i) b1) 80 (8 + i) true) f else q881_254 i false v0 (pm_up x 82 (8 + i) ((x 82 (8 + i)) + (0 : Int32))) (pm_up (pm_up w 79 (8 + i) b1) 80 (8 + i) true) f) else (if (w 80 (8 + i)) = true then q881_254 i true v0 (pm_up x 82 (8 + i) ((x 82 (8 + i)) + (1 : Int32))) (pm_up (pm_up w 79 (8 + i) b1) 80 (8 + i) true) f else q881_254 i true v0 (pm_up x 82 (8 + i) ((x 82 (8 + i)) + (1 : Int32))) (pm_up (pm_up w 79 (8 + i) b1) 80 (8 + i) false) f)))))))
theorem e881_84 {sc : pm_Sc} (d : Nat) (i : Nat) (v0 : Bool) (b1 : Bool) (x : Nat → Nat → Int32) (w : Nat → Nat → Bool) (f : Nat → Nat → Nat) (hi : i < 8) : pm_ev (pm_call pm_Tf sc (d + 0)) sc 0 pm_c88 84 [(4, pm_bi v0), (3, .inl (Int32.ofNat (8 + i))), (0, pm_r 67), (1, .inl 1), (2, .inl (Int32.ofNat i))] [pm_bi b1, .inl (Int32.ofNat (8 + i)), pm_r 79] (pm_u x w f) = some (pm_h0 f (q881_84 i v0 b1 x w f)) := (s881_84_0 d i v0 b1 x w f hi).trans (pm_iteG (g := (fun t => some (pm_h0 f t))) (fun _ => e881_254 d  i false v0 (pm_up x 76 (8 + i) ((x 76 (8 + i)) + (10 : Int32))) (pm_up w 79 (8 + i) b1) f hi) (fun _ => pm_iteG (g := (fun t => some (pm_h0 f t))) (fun _ => e881_254 d  i false v0 (pm_up x 76 (8 + i) ((x 76 (8 + i)) + (5 : Int32))) (pm_up w 79 (8 + i) b1) f hi) (fun _ => pm_iteG (g := (fun t => some (pm_h0 f t))) (fun _ => pm_iteG (g := (fun t => some (pm_h0 f t))) (fun _ => e881_254 d  i false v0 (pm_up x 76 (8 + i) 0) (pm_up w 79 (8 + i) b1) f hi) (fun _ => e881_254 d  i false v0 (pm_up x 76 (8 + i) ((x 76 (8 + i)) - (5 : Int32))) (pm_up w 79 (8 + i) b1) f hi)) (fun _ => pm_iteG (g := (fun t => some (pm_h0 f t))) (fun _ => pm_iteG (g := (fun t => some (pm_h0 f t))) (fun _ => e881_254 d  i false v0 (pm_up x 76 (8 + i) 0) (pm_up w 79 (8 + i) b1) f hi) (fun _ => e881_254 d  i false v0 (pm_up x 76 (8 + i) ((x 76 (8 + i)) - (5 : Int32))) (pm_up w 79 (8 + i) b1) f hi)) (fun _ => pm_iteG (g := (fun t => some (pm_h0 f t))) (fun _ => pm_iteG (g := (fun t => some (pm_h0 f t))) (fun _ => e881_254 d  i false v0 (pm_up x 76 (8 + i) 0) (pm_up w 79 (8 + i) b1) f hi) (fun _ => e881_254 d  i false v0 (pm_up x 76 (8 + i) ((x 76 (8 + i)) - (5 : Int32))) (pm_up w 79 (8 + i) b1) f hi)) (fun _ => pm_iteG (g := (fun t => some (pm_h0 f t))) (fun _ => pm_iteG (g := (fun t => some (pm_h0 f t))) (fun _ => e881_254 d  i false v0 (pm_up x 82 (8 + i) ((x 82 (8 + i)) + (0 : Int32))) (pm_up (pm_up w 79 (8 + i) b1) 80 (8 + i) true) f hi) (fun _ => e881_254 d  i false v0 (pm_up x 82 (8 + i) ((x 82 (8 + i)) + (0 : Int32))) (pm_up (pm_up w 79 (8 + i) b1) 80 (8 + i) true) f hi)) (fun _ => pm_iteG (g := (fun t => some (pm_h0 f t))) (fun _ => e881_254 d  i true v0 (pm_up x 82 (8 + i) ((x 82 (8 + i)) + (1 : Int32))) (pm_up (pm_up w 79 (8 + i) b1) 80 (8 + i) true) f hi) (fun _ => e881_254 d  i true v0 (pm_up x 82 (8 + i) ((x 82 (8 + i)) + (1 : Int32))) (pm_up (pm_up w 79 (8 + i) b1) 80 (8 + i) false) f hi))))))))
set_option maxRecDepth 20000 in
theorem s881_40_0 {sc : pm_Sc} (d : Nat) (i : Nat) (b0 : Bool) (x : Nat → Nat → Int32) (w : Nat → Nat → Bool) (f : Nat → Nat → Nat) (hi : i < 8) : pm_ev (pm_call pm_Tf sc (d + 0)) sc 0 pm_c88 40 [(3, .inl (Int32.ofNat (8 + i))), (0, pm_r 67), (1, .inl 1), (2, .inl (Int32.ofNat i))] [pm_bi b0] (pm_u x w f) = (if (x 69 1) = 0 then (if (x 83 (8 + i)) ≤ 0 then pm_ev (pm_call pm_Tf sc (d + 0)) sc 0 pm_c88 84 [(4, pm_bi b0), (3, .inl (Int32.ofNat (8 + i))), (0, pm_r 67), (1, .inl 1), (2, .inl (Int32.ofNat i))] [.inl 0, .inl (Int32.ofNat (8 + i)), pm_r 79] (pm_u x w f) else pm_ev (pm_call pm_Tf sc (d + 0)) sc 0 pm_c88 84 [(4, pm_bi b0), (3, .inl (Int32.ofNat (8 + i))), (0, pm_r 67), (1, .inl 1), (2, .inl (Int32.ofNat i))] [.inl 1, .inl (Int32.ofNat (8 + i)), pm_r 79] (pm_u x w f)) else (if (w 77 (8 + i)) = true then (if (x 83 (8 + i)) ≤ 0 then pm_ev (pm_call pm_Tf sc (d + 0)) sc 0 pm_c88 84 [(4, pm_bi b0), (3, .inl (Int32.ofNat (8 + i))), (0, pm_r 67), (1, .inl 1), (2, .inl (Int32.ofNat i))] [.inl 0, .inl (Int32.ofNat (8 + i)), pm_r 79] (pm_u x w f) else pm_ev (pm_call pm_Tf sc (d + 0)) sc 0 pm_c88 84 [(4, pm_bi b0), (3, .inl (Int32.ofNat (8 + i))), (0, pm_r 67), (1, .inl 1), (2, .inl (Int32.ofNat i))] [.inl 1, .inl (Int32.ofNat (8 + i)), pm_r 79] (pm_u x w f)) else (if b0 = true then (if (x 83 (8 + i)) ≤ 0 then pm_ev (pm_call pm_Tf sc (d + 0)) sc 0 pm_c88 84 [(4, pm_bi b0), (3, .inl (Int32.ofNat (8 + i))), (0, pm_r 67), (1, .inl 1), (2, .inl (Int32.ofNat i))] [.inl 0, .inl (Int32.ofNat (8 + i)), pm_r 79] (pm_u x w f) else pm_ev (pm_call pm_Tf sc (d + 0)) sc 0 pm_c88 84 [(4, pm_bi b0), (3, .inl (Int32.ofNat (8 + i))), (0, pm_r 67), (1, .inl 1), (2, .inl (Int32.ofNat i))] [.inl 1, .inl (Int32.ofNat (8 + i)), pm_r 79] (pm_u x w f)) else pm_ev (pm_call pm_Tf sc (d + 0)) sc 0 pm_c88 84 [(4, pm_bi b0), (3, .inl (Int32.ofNat (8 + i))), (0, pm_r 67), (1, .inl 1), (2, .inl (Int32.ofNat i))] [.inl 1, .inl (Int32.ofNat (8 + i)), pm_r 79] (pm_u x w f)))) := by
  (rcases pm_lt8 hi with rfl | rfl | rfl | rfl | rfl | rfl | rfl | rfl) <;> cases b0 <;> exact (pm_ev_iter [40, 84, 254, 281, 284, 304, 325] 3000 _ _ _ _).trans rfl
def q881_40 (i : Nat) (b0 : Bool) (x : Nat → Nat → Int32) (w : Nat → Nat → Bool) (f : Nat → Nat → Nat) : (Nat → Nat → Int32) × (Nat → Nat → Bool) := (if (x 69 1) = 0 then (if (x 83 (8 + i)) ≤ 0 then q881_84 i b0 false x w f else q881_84 i b0 true x w f) else (if (w 77 (8 + i)) = true then (if (x 83 (8 + i)) ≤ 0 then q881_84 i b0 false x w f else q881_84 i b0 true x w f) else (if b0 = true then (if (x 83 (8 + i)) ≤ 0 then q881_84 i b0 false x w f else q881_84 i b0 true x w f) else q881_84 i b0 true x w f)))
theorem e881_40 {sc : pm_Sc} (d : Nat) (i : Nat) (b0 : Bool) (x : Nat → Nat → Int32) (w : Nat → Nat → Bool) (f : Nat → Nat → Nat) (hi : i < 8) : pm_ev (pm_call pm_Tf sc (d + 0)) sc 0 pm_c88 40 [(3, .inl (Int32.ofNat (8 + i))), (0, pm_r 67), (1, .inl 1), (2, .inl (Int32.ofNat i))] [pm_bi b0] (pm_u x w f) = some (pm_h0 f (q881_40 i b0 x w f)) := (s881_40_0 d i b0 x w f hi).trans (pm_iteG (g := (fun t => some (pm_h0 f t))) (fun _ => pm_iteG (g := (fun t => some (pm_h0 f t))) (fun _ => e881_84 d  i b0 false x w f hi) (fun _ => e881_84 d  i b0 true x w f hi)) (fun _ => pm_iteG (g := (fun t => some (pm_h0 f t))) (fun _ => pm_iteG (g := (fun t => some (pm_h0 f t))) (fun _ => e881_84 d  i b0 false x w f hi) (fun _ => e881_84 d  i b0 true x w f hi)) (fun _ => pm_iteG (g := (fun t => some (pm_h0 f t))) (fun _ => pm_iteG (g := (fun t => some (pm_h0 f t))) (fun _ => e881_84 d  i b0 false x w f hi) (fun _ => e881_84 d  i b0 true x w f hi)) (fun _ => e881_84 d  i b0 true x w f hi))))
set_option maxRecDepth 20000 in
theorem s881_0 {sc : pm_Sc} (d : Nat) (i : Nat) (x : Nat → Nat → Int32) (w : Nat → Nat → Bool) (f : Nat → Nat → Nat) (hi : i < 8) : pm_ev (pm_call pm_Tf sc (d + 0)) sc 0 pm_c88 0 [(0, pm_r 67), (1, .inl 1), (2, .inl (Int32.ofNat i))] [] (pm_u x w f) = (if (w 72 1) = true then (if (((x 73 9) >>> ((Int32.ofNat i) &&& 31)) &&& (1 : Int32)) = 1 then pm_ev (pm_call pm_Tf sc (d + 0)) sc 0 pm_c88 40 [(3, .inl (Int32.ofNat (8 + i))), (0, pm_r 67), (1, .inl 1), (2, .inl (Int32.ofNat i))] [.inl 1] (pm_u x w f) else pm_ev (pm_call pm_Tf sc (d + 0)) sc 0 pm_c88 40 [(3, .inl (Int32.ofNat (8 + i))), (0, pm_r 67), (1, .inl 1), (2, .inl (Int32.ofNat i))] [.inl 0] (pm_u x w f)) else pm_ev (pm_call pm_Tf sc (d + 0)) sc 0 pm_c88 40 [(3, .inl (Int32.ofNat (8 + i))), (0, pm_r 67), (1, .inl 1), (2, .inl (Int32.ofNat i))] [.inl 0] (pm_u x w f)) := by
  (rcases pm_lt8 hi with rfl | rfl | rfl | rfl | rfl | rfl | rfl | rfl) <;> exact (pm_ev_iter [40, 84, 254, 281, 284, 304, 325] 3000 _ _ _ _).trans rfl
def q881 (i : Nat) (x : Nat → Nat → Int32) (w : Nat → Nat → Bool) (f : Nat → Nat → Nat) : (Nat → Nat → Int32) × (Nat → Nat → Bool) := (if (w 72 1) = true then (if (((x 73 9) >>> ((Int32.ofNat i) &&& 31)) &&& (1 : Int32)) = 1 then q881_40 i true x w f else q881_40 i false x w f) else q881_40 i false x w f)
theorem e881 {sc : pm_Sc} (d : Nat) (i : Nat) (x : Nat → Nat → Int32) (w : Nat → Nat → Bool) (f : Nat → Nat → Nat) (hi : i < 8) : pm_ev (pm_call pm_Tf sc (d + 0)) sc 0 pm_c88 0 [(0, pm_r 67), (1, .inl 1), (2, .inl (Int32.ofNat i))] [] (pm_u x w f) = some (pm_h0 f (q881 i x w f)) := (s881_0 d i x w f hi).trans (pm_iteG (g := (fun t => some (pm_h0 f t))) (fun _ => pm_iteG (g := (fun t => some (pm_h0 f t))) (fun _ => e881_40 d  i true x w f hi) (fun _ => e881_40 d  i false x w f hi)) (fun _ => e881_40 d  i false x w f hi))
theorem z881 {sc : pm_Sc} (d : Nat) (i : Nat) (x : Nat → Nat → Int32) (w : Nat → Nat → Bool) (f : Nat → Nat → Nat) (hi : i < 8) : pm_call pm_Tf sc (d + 1) 88 [pm_r 67, .inl 1, .inl (Int32.ofNat i)] (pm_u x w f) = some (pm_h0 f (q881 i x w f)) := e881 d i x w f hi
set_option maxRecDepth 20000 in
theorem s890_157_0 {sc : pm_Sc} (d : Nat) (n : Nat) (v0 : Int32) (x : Nat → Nat → Int32) (w : Nat → Nat → Bool) (f : Nat → Nat → Nat) (hc : n < 12) : pm_ev (pm_call pm_Tf sc (d + 3)) sc 0 pm_c89 157 [(3, .inl (Int32.ofNat (72 + (6 * n)))), (2, .inl 1), (0, pm_r 67), (1, .inl 0)] [.inl v0, .inl (Int32.ofNat ((72 + (6 * n)) + 5)), pm_r 75] (pm_u x w f) = some (none, pm_u (pm_up (pm_up x 75 ((72 + (6 * n)) + 5) v0) 74 1 ((x 74 1) + (1 : Int32))) w f) := by
  (rcases pm_lt12 hc with rfl | rfl | rfl | rfl | rfl | rfl | rfl | rfl | rfl | rfl | rfl | rfl) <;> exact (pm_ev_iter [85, 109, 122, 133, 157] 3000 _ _ _ _).trans rfl
def q890_157 (n : Nat) (v0 : Int32) (x : Nat → Nat → Int32) (w : Nat → Nat → Bool) (f : Nat → Nat → Nat) : (Nat → Nat → Int32) × (Nat → Nat → Bool) := (pm_up (pm_up x 75 ((72 + (6 * n)) + 5) v0) 74 1 ((x 74 1) + (1 : Int32)), w)
theorem e890_157 {sc : pm_Sc} (d : Nat) (n : Nat) (v0 : Int32) (x : Nat → Nat → Int32) (w : Nat → Nat → Bool) (f : Nat → Nat → Nat) (hc : n < 12) : pm_ev (pm_call pm_Tf sc (d + 3)) sc 0 pm_c89 157 [(3, .inl (Int32.ofNat (72 + (6 * n)))), (2, .inl 1), (0, pm_r 67), (1, .inl 0)] [.inl v0, .inl (Int32.ofNat ((72 + (6 * n)) + 5)), pm_r 75] (pm_u x w f) = some (pm_h0 f (q890_157 n v0 x w f)) := (s890_157_0 d n v0 x w f hc).trans (rfl)
set_option maxRecDepth 20000 in
theorem s890_133_0 {sc : pm_Sc} (d : Nat) (n : Nat) (v0 : Int32) (x : Nat → Nat → Int32) (w : Nat → Nat → Bool) (f : Nat → Nat → Nat) (hc : n < 12) : pm_ev (pm_call pm_Tf sc (d + 3)) sc 0 pm_c89 133 [(3, .inl (Int32.ofNat (72 + (6 * n)))), (2, .inl 1), (0, pm_r 67), (1, .inl 0)] [.inl v0, .inl (Int32.ofNat ((72 + (6 * n)) + 4)), pm_r 75] (pm_u x w f) = (if (w 67 21) = true then pm_ev (pm_call pm_Tf sc (d + 3)) sc 0 pm_c89 157 [(3, .inl (Int32.ofNat (72 + (6 * n)))), (2, .inl 1), (0, pm_r 67), (1, .inl 0)] [.inl 1, .inl (Int32.ofNat ((72 + (6 * n)) + 5)), pm_r 75] (pm_u (pm_up x 75 ((72 + (6 * n)) + 4) v0) w f) else pm_ev (pm_call pm_Tf sc (d + 3)) sc 0 pm_c89 157 [(3, .inl (Int32.ofNat (72 + (6 * n)))), (2, .inl 1), (0, pm_r 67), (1, .inl 0)] [.inl 0, .inl (Int32.ofNat ((72 + (6 * n)) + 5)), pm_r 75] (pm_u (pm_up x 75 ((72 + (6 * n)) + 4) v0) w f)) := by
  (rcases pm_lt12 hc with rfl | rfl | rfl | rfl | rfl | rfl | rfl | rfl | rfl | rfl | rfl | rfl) <;> exact (pm_ev_iter [85, 109, 122, 133, 157] 3000 _ _ _ _).trans rfl
def q890_133 (n : Nat) (v0 : Int32) (x : Nat → Nat → Int32) (w : Nat → Nat → Bool) (f : Nat → Nat → Nat) : (Nat → Nat → Int32) × (Nat → Nat → Bool) := (if (w 67 21) = true then q890_157 n 1 (pm_up x 75 ((72 + (6 * n)) + 4) v0) w f else q890_157 n 0 (pm_up x 75 ((72 + (6 * n)) + 4) v0) w f)
theorem e890_133 {sc : pm_Sc} (d : Nat) (n : Nat) (v0 : Int32) (x : Nat → Nat → Int32) (w : Nat → Nat → Bool) (f : Nat → Nat → Nat) (hc : n < 12) : pm_ev (pm_call pm_Tf sc (d + 3)) sc 0 pm_c89 133 [(3, .inl (Int32.ofNat (72 + (6 * n)))), (2, .inl 1), (0, pm_r 67), (1, .inl 0)] [.inl v0, .inl (Int32.ofNat ((72 + (6 * n)) + 4)), pm_r 75] (pm_u x w f) = some (pm_h0 f (q890_133 n v0 x w f)) := (s890_133_0 d n v0 x w f hc).trans (pm_iteG (g := (fun t => some (pm_h0 f t))) (fun _ => e890_157 d  n 1 (pm_up x 75 ((72 + (6 * n)) + 4) v0) w f hc) (fun _ => e890_157 d  n 0 (pm_up x 75 ((72 + (6 * n)) + 4) v0) w f hc))
set_option maxRecDepth 20000 in
theorem s890_85_0 {sc : pm_Sc} (d : Nat) (n : Nat) (v0 : Int32) (x : Nat → Nat → Int32) (w : Nat → Nat → Bool) (f : Nat → Nat → Nat) (hc : n < 12) : pm_ev (pm_call pm_Tf sc (d + 3)) sc 0 pm_c89 85 [(3, .inl (Int32.ofNat (72 + (6 * n)))), (2, .inl 1), (0, pm_r 67), (1, .inl 0)] [.inl v0, .inl (Int32.ofNat ((72 + (6 * n)) + 1)), pm_r 75] (pm_u x w f) = pm_ev (pm_call pm_Tf sc (d + 3)) sc 0 pm_c89 109 [(3, .inl (Int32.ofNat (72 + (6 * n)))), (2, .inl 1), (0, pm_r 67), (1, .inl 0)] [.inl 0, pm_r 67, .inl (Int32.ofNat ((72 + (6 * n)) + 3)), pm_r 75] (pm_u (pm_up (pm_up x 75 ((72 + (6 * n)) + 1) v0) 75 ((72 + (6 * n)) + 2) (x 69 0)) w f) := by
  (rcases pm_lt12 hc with rfl | rfl | rfl | rfl | rfl | rfl | rfl | rfl | rfl | rfl | rfl | rfl) <;> exact (pm_ev_iter [85, 109, 122, 133, 157] 3000 _ _ _ _).trans rfl
theorem s890_85_1 {sc : pm_Sc} (d : Nat) (n : Nat) (v0 : Int32) (x : Nat → Nat → Int32) (w : Nat → Nat → Bool) (f : Nat → Nat → Nat) (hc : n < 12) : pm_ev (pm_call pm_Tf sc (d + 3)) sc 0 pm_c89 109 [(3, .inl (Int32.ofNat (72 + (6 * n)))), (2, .inl 1), (0, pm_r 67), (1, .inl 0)] [.inl 0, pm_r 67, .inl (Int32.ofNat ((72 + (6 * n)) + 3)), pm_r 75] (pm_u (pm_up (pm_up x 75 ((72 + (6 * n)) + 1) v0) 75 ((72 + (6 * n)) + 2) (x 69 0)) w f) = pm_call1 (fun v u => pm_ev (pm_call pm_Tf sc (d + 3)) sc 0 pm_c89 112 [(3, .inl (Int32.ofNat (72 + (6 * n)))), (2, .inl 1), (0, pm_r 67), (1, .inl 0)] (v.toList ++ [.inl (Int32.ofNat ((72 + (6 * n)) + 3)), pm_r 75]) u) none ((pm_call pm_Tf sc (d + 3)) 84 [pm_r 67, .inl 0] (pm_u (pm_up (pm_up x 75 ((72 + (6 * n)) + 1) v0) 75 ((72 + (6 * n)) + 2) (x 69 0)) w f)) := by
  (rcases pm_lt12 hc with rfl | rfl | rfl | rfl | rfl | rfl | rfl | rfl | rfl | rfl | rfl | rfl) <;> exact (pm_ev_step _ _ _ _).trans rfl
set_option maxRecDepth 20000 in
theorem s890_85_2 {sc : pm_Sc} (d : Nat) (n : Nat) (v0 : Int32) (x : Nat → Nat → Int32) (w : Nat → Nat → Bool) (f : Nat → Nat → Nat) (hc : n < 12) : pm_ev (pm_call pm_Tf sc (d + 3)) sc 0 pm_c89 112 [(3, .inl (Int32.ofNat (72 + (6 * n)))), (2, .inl 1), (0, pm_r 67), (1, .inl 0)] [.inl (q840 (pm_up (pm_up x 75 ((72 + (6 * n)) + 1) v0) 75 ((72 + (6 * n)) + 2) (x 69 0)) w f), .inl (Int32.ofNat ((72 + (6 * n)) + 3)), pm_r 75] (pm_u (pm_up (pm_up x 75 ((72 + (6 * n)) + 1) v0) 75 ((72 + (6 * n)) + 2) (x 69 0)) w f) = pm_ev (pm_call pm_Tf sc (d + 3)) sc 0 pm_c89 122 [(3, .inl (Int32.ofNat (72 + (6 * n)))), (2, .inl 1), (0, pm_r 67), (1, .inl 0)] [.inl 0, pm_r 67, .inl (Int32.ofNat ((72 + (6 * n)) + 4)), pm_r 75] (pm_u (pm_up (pm_up (pm_up x 75 ((72 + (6 * n)) + 1) v0) 75 ((72 + (6 * n)) + 2) (x 69 0)) 75 ((72 + (6 * n)) + 3) (q840 (pm_up (pm_up x 75 ((72 + (6 * n)) + 1) v0) 75 ((72 + (6 * n)) + 2) (x 69 0)) w f)) w f) := by
  (rcases pm_lt12 hc with rfl | rfl | rfl | rfl | rfl | rfl | rfl | rfl | rfl | rfl | rfl | rfl) <;> exact (pm_ev_iter [85, 109, 122, 133, 157] 3000 _ _ _ _).trans rfl
theorem s890_85_3 {sc : pm_Sc} (d : Nat) (n : Nat) (v0 : Int32) (x : Nat → Nat → Int32) (w : Nat → Nat → Bool) (f : Nat → Nat → Nat) (hc : n < 12) : pm_ev (pm_call pm_Tf sc (d + 3)) sc 0 pm_c89 122 [(3, .inl (Int32.ofNat (72 + (6 * n)))), (2, .inl 1), (0, pm_r 67), (1, .inl 0)] [.inl 0, pm_r 67, .inl (Int32.ofNat ((72 + (6 * n)) + 4)), pm_r 75] (pm_u (pm_up (pm_up (pm_up x 75 ((72 + (6 * n)) + 1) v0) 75 ((72 + (6 * n)) + 2) (x 69 0)) 75 ((72 + (6 * n)) + 3) (q840 (pm_up (pm_up x 75 ((72 + (6 * n)) + 1) v0) 75 ((72 + (6 * n)) + 2) (x 69 0)) w f)) w f) = pm_call1 (fun v u => pm_ev (pm_call pm_Tf sc (d + 3)) sc 0 pm_c89 125 [(3, .inl (Int32.ofNat (72 + (6 * n)))), (2, .inl 1), (0, pm_r 67), (1, .inl 0)] (v.toList ++ [.inl (Int32.ofNat ((72 + (6 * n)) + 4)), pm_r 75]) u) none ((pm_call pm_Tf sc (d + 3)) 83 [pm_r 67, .inl 0] (pm_u (pm_up (pm_up (pm_up x 75 ((72 + (6 * n)) + 1) v0) 75 ((72 + (6 * n)) + 2) (x 69 0)) 75 ((72 + (6 * n)) + 3) (q840 (pm_up (pm_up x 75 ((72 + (6 * n)) + 1) v0) 75 ((72 + (6 * n)) + 2) (x 69 0)) w f)) w f)) := by
  (rcases pm_lt12 hc with rfl | rfl | rfl | rfl | rfl | rfl | rfl | rfl | rfl | rfl | rfl | rfl) <;> exact (pm_ev_step _ _ _ _).trans rfl
set_option maxRecDepth 20000 in
theorem s890_85_4 {sc : pm_Sc} (d : Nat) (n : Nat) (v0 : Int32) (x : Nat → Nat → Int32) (w : Nat → Nat → Bool) (f : Nat → Nat → Nat) (hc : n < 12) : pm_ev (pm_call pm_Tf sc (d + 3)) sc 0 pm_c89 125 [(3, .inl (Int32.ofNat (72 + (6 * n)))), (2, .inl 1), (0, pm_r 67), (1, .inl 0)] [pm_b (q830 (pm_up (pm_up (pm_up x 75 ((72 + (6 * n)) + 1) v0) 75 ((72 + (6 * n)) + 2) (x 69 0)) 75 ((72 + (6 * n)) + 3) (q840 (pm_up (pm_up x 75 ((72 + (6 * n)) + 1) v0) 75 ((72 + (6 * n)) + 2) (x 69 0)) w f)) w f), .inl (Int32.ofNat ((72 + (6 * n)) + 4)), pm_r 75] (pm_u (pm_up (pm_up (pm_up x 75 ((72 + (6 * n)) + 1) v0) 75 ((72 + (6 * n)) + 2) (x 69 0)) 75 ((72 + (6 * n)) + 3) (q840 (pm_up (pm_up x 75 ((72 + (6 * n)) + 1) v0) 75 ((72 + (6 * n)) + 2) (x 69 0)) w f)) w f) = (if (q830 (pm_up (pm_up (pm_up x 75 ((72 + (6 * n)) + 1) v0) 75 ((72 + (6 * n)) + 2) (x 69 0)) 75 ((72 + (6 * n)) + 3) (q840 (pm_up (pm_up x 75 ((72 + (6 * n)) + 1) v0) 75 ((72 + (6 * n)) + 2) (x 69 0)) w f)) w f) = true then pm_ev (pm_call pm_Tf sc (d + 3)) sc 0 pm_c89 133 [(3, .inl (Int32.ofNat (72 + (6 * n)))), (2, .inl 1), (0, pm_r 67), (1, .inl 0)] [.inl 1, .inl (Int32.ofNat ((72 + (6 * n)) + 4)), pm_r 75] (pm_u (pm_up (pm_up (pm_up x 75 ((72 + (6 * n)) + 1) v0) 75 ((72 + (6 * n)) + 2) (x 69 0)) 75 ((72 + (6 * n)) + 3) (q840 (pm_up (pm_up x 75 ((72 + (6 * n)) + 1) v0) 75 ((72 + (6 * n)) + 2) (x 69 0)) w f)) w f) else pm_ev (pm_call pm_Tf sc (d + 3)) sc 0 pm_c89 133 [(3, .inl (Int32.ofNat (72 + (6 * n)))), (2, .inl 1), (0, pm_r 67), (1, .inl 0)] [.inl 0, .inl (Int32.ofNat ((72 + (6 * n)) + 4)), pm_r 75] (pm_u (pm_up (pm_up (pm_up x 75 ((72 + (6 * n)) + 1) v0) 75 ((72 + (6 * n)) + 2) (x 69 0)) 75 ((72 + (6 * n)) + 3) (q840 (pm_up (pm_up x 75 ((72 + (6 * n)) + 1) v0) 75 ((72 + (6 * n)) + 2) (x 69 0)) w f)) w f)) := by
  (rcases pm_lt12 hc with rfl | rfl | rfl | rfl | rfl | rfl | rfl | rfl | rfl | rfl | rfl | rfl) <;> exact (pm_ev_iter [85, 109, 122, 133, 157] 3000 _ _ _ _).trans rfl
def q890_85 (n : Nat) (v0 : Int32) (x : Nat → Nat → Int32) (w : Nat → Nat → Bool) (f : Nat → Nat → Nat) : (Nat → Nat → Int32) × (Nat → Nat → Bool) := (if (q830 (pm_up (pm_up (pm_up x 75 ((72 + (6 * n)) + 1) v0) 75 ((72 + (6 * n)) + 2) (x 69 0)) 75 ((72 + (6 * n)) + 3) (q840 (pm_up (pm_up x 75 ((72 + (6 * n)) + 1) v0) 75 ((72 + (6 * n)) + 2) (x 69 0)) w f)) w f) = true then q890_133 n 1 (pm_up (pm_up (pm_up x 75 ((72 + (6 * n)) + 1) v0) 75 ((72 + (6 * n)) + 2) (x 69 0)) 75 ((72 + (6 * n)) + 3) (q840 (pm_up (pm_up x 75 ((72 + (6 * n)) + 1) v0) 75 ((72 + (6 * n)) + 2) (x 69 0)) w f)) w f else q890_133 n 0 (pm_up (pm_up (pm_up x 75 ((72 + (6 * n)) + 1) v0) 75 ((72 + (6 * n)) + 2) (x 69 0)) 75 ((72 + (6 * n)) + 3) (q840 (pm_up (pm_up x 75 ((72 + (6 * n)) + 1) v0) 75 ((72 + (6 * n)) + 2) (x 69 0)) w f)) w f)
theorem e890_85 {sc : pm_Sc} (d : Nat) (n : Nat) (v0 : Int32) (x : Nat → Nat → Int32) (w : Nat → Nat → Bool) (f : Nat → Nat → Nat) (hc : n < 12) : pm_ev (pm_call pm_Tf sc (d + 3)) sc 0 pm_c89 85 [(3, .inl (Int32.ofNat (72 + (6 * n)))), (2, .inl 1), (0, pm_r 67), (1, .inl 0)] [.inl v0, .inl (Int32.ofNat ((72 + (6 * n)) + 1)), pm_r 75] (pm_u x w f) = some (pm_h0 f (q890_85 n v0 x w f)) := (s890_85_0 d n v0 x w f hc).trans (((s890_85_1 d n v0 x w f hc).trans ((pm_call1_of (z840 (d + 3) (pm_up (pm_up x 75 ((72 + (6 * n)) + 1) v0) 75 ((72 + (6 * n)) + 2) (x 69 0)) w f)).trans ((s890_85_2 d n v0 x w f hc).trans (((s890_85_3 d n v0 x w f hc).trans ((pm_call1_of (z830 (d + 0) (pm_up (pm_up (pm_up x 75 ((72 + (6 * n)) + 1) v0) 75 ((72 + (6 * n)) + 2) (x 69 0)) 75 ((72 + (6 * n)) + 3) (q840 (pm_up (pm_up x 75 ((72 + (6 * n)) + 1) v0) 75 ((72 + (6 * n)) + 2) (x 69 0)) w f)) w f)).trans ((s890_85_4 d n v0 x w f hc).trans (pm_iteG (g := (fun t => some (pm_h0 f t))) (fun _ => e890_133 d  n 1 (pm_up (pm_up (pm_up x 75 ((72 + (6 * n)) + 1) v0) 75 ((72 + (6 * n)) + 2) (x 69 0)) 75 ((72 + (6 * n)) + 3) (q840 (pm_up (pm_up x 75 ((72 + (6 * n)) + 1) v0) 75 ((72 + (6 * n)) + 2) (x 69 0)) w f)) w f hc) (fun _ => e890_133 d  n 0 (pm_up (pm_up (pm_up x 75 ((72 + (6 * n)) + 1) v0) 75 ((72 + (6 * n)) + 2) (x 69 0)) 75 ((72 + (6 * n)) + 3) (q840 (pm_up (pm_up x 75 ((72 + (6 * n)) + 1) v0) 75 ((72 + (6 * n)) + 2) (x 69 0)) w f)) w f hc))))))))))
set_option maxRecDepth 20000 in
theorem s890_0 {sc : pm_Sc} (d : Nat) (n : Nat) (x : Nat → Nat → Int32) (w : Nat → Nat → Bool) (f : Nat → Nat → Nat) (hc : n < 12) : pm_ev (pm_call pm_Tf sc (d + 3)) sc 0 pm_c89 0 [(0, pm_r 67), (1, .inl 0)] [] (pm_u (pm_up x 74 1 (Int32.ofNat n)) w f) = (if ((x 68 0) - (x 68 0) / (5 : Int32) * (5 : Int32)) = 0 then (if (Int32.ofNat n) = 12 then some (none, pm_u (pm_up x 74 1 (Int32.ofNat n)) w f) else (if (w 72 0) = true then pm_ev (pm_call pm_Tf sc (d + 3)) sc 0 pm_c89 85 [(3, .inl (Int32.ofNat (72 + (6 * n)))), (2, .inl 1), (0, pm_r 67), (1, .inl 0)] [.inl (x 73 0), .inl (Int32.ofNat ((72 + (6 * n)) + 1)), pm_r 75] (pm_u (pm_up (pm_up x 74 1 (Int32.ofNat n)) 75 (72 + (6 * n)) ((x 68 0) / (5 : Int32))) w f) else pm_ev (pm_call pm_Tf sc (d + 3)) sc 0 pm_c89 85 [(3, .inl (Int32.ofNat (72 + (6 * n)))), (2, .inl 1), (0, pm_r 67), (1, .inl 0)] [.inl 0, .inl (Int32.ofNat ((72 + (6 * n)) + 1)), pm_r 75] (pm_u (pm_up (pm_up x 74 1 (Int32.ofNat n)) 75 (72 + (6 * n)) ((x 68 0) / (5 : Int32))) w f))) else some (none, pm_u (pm_up x 74 1 (Int32.ofNat n)) w f)) := by
  (rcases pm_lt12 hc with rfl | rfl | rfl | rfl | rfl | rfl | rfl | rfl | rfl | rfl | rfl | rfl) <;> exact (pm_ev_iter [85, 109, 122, 133, 157] 3000 _ _ _ _).trans rfl
def q890 (n : Nat) (x : Nat → Nat → Int32) (w : Nat → Nat → Bool) (f : Nat → Nat → Nat) : (Nat → Nat → Int32) × (Nat → Nat → Bool) := (if ((x 68 0) - (x 68 0) / (5 : Int32) * (5 : Int32)) = 0 then (if (Int32.ofNat n) = 12 then (pm_up x 74 1 (Int32.ofNat n), w) else (if (w 72 0) = true then q890_85 n (x 73 0) (pm_up (pm_up x 74 1 (Int32.ofNat n)) 75 (72 + (6 * n)) ((x 68 0) / (5 : Int32))) w f else q890_85 n 0 (pm_up (pm_up x 74 1 (Int32.ofNat n)) 75 (72 + (6 * n)) ((x 68 0) / (5 : Int32))) w f)) else (pm_up x 74 1 (Int32.ofNat n), w))
theorem e890 {sc : pm_Sc} (d : Nat) (n : Nat) (x : Nat → Nat → Int32) (w : Nat → Nat → Bool) (f : Nat → Nat → Nat) (hc : n < 12) : pm_ev (pm_call pm_Tf sc (d + 3)) sc 0 pm_c89 0 [(0, pm_r 67), (1, .inl 0)] [] (pm_u (pm_up x 74 1 (Int32.ofNat n)) w f) = some (pm_h0 f (q890 n x w f)) := (s890_0 d n x w f hc).trans (pm_iteG (g := (fun t => some (pm_h0 f t))) (fun _ => pm_iteG (g := (fun t => some (pm_h0 f t))) (fun _ => rfl) (fun _ => pm_iteG (g := (fun t => some (pm_h0 f t))) (fun _ => e890_85 d  n (x 73 0) (pm_up (pm_up x 74 1 (Int32.ofNat n)) 75 (72 + (6 * n)) ((x 68 0) / (5 : Int32))) w f hc) (fun _ => e890_85 d  n 0 (pm_up (pm_up x 74 1 (Int32.ofNat n)) 75 (72 + (6 * n)) ((x 68 0) / (5 : Int32))) w f hc))) (fun _ => rfl))
theorem z890 {sc : pm_Sc} (d : Nat) (n : Nat) (x : Nat → Nat → Int32) (w : Nat → Nat → Bool) (f : Nat → Nat → Nat) (hc : n < 12) : pm_call pm_Tf sc (d + 4) 89 [pm_r 67, .inl 0] (pm_u (pm_up x 74 1 (Int32.ofNat n)) w f) = some (pm_h0 f (q890 n x w f)) := e890 d n x w f hc
set_option maxRecDepth 20000 in
theorem s891_157_0 {sc : pm_Sc} (d : Nat) (n : Nat) (v0 : Int32) (x : Nat → Nat → Int32) (w : Nat → Nat → Bool) (f : Nat → Nat → Nat) (hc : n < 12) : pm_ev (pm_call pm_Tf sc (d + 3)) sc 0 pm_c89 157 [(3, .inl (Int32.ofNat (0 + (6 * n)))), (2, .inl 0), (0, pm_r 67), (1, .inl 1)] [.inl v0, .inl (Int32.ofNat ((0 + (6 * n)) + 5)), pm_r 75] (pm_u x w f) = some (none, pm_u (pm_up (pm_up x 75 ((0 + (6 * n)) + 5) v0) 74 0 ((x 74 0) + (1 : Int32))) w f) := by
  (rcases pm_lt12 hc with rfl | rfl | rfl | rfl | rfl | rfl | rfl | rfl | rfl | rfl | rfl | rfl) <;> exact (pm_ev_iter [85, 109, 122, 133, 157] 3000 _ _ _ _).trans rfl
def q891_157 (n : Nat) (v0 : Int32) (x : Nat → Nat → Int32) (w : Nat → Nat → Bool) (f : Nat → Nat → Nat) : (Nat → Nat → Int32) × (Nat → Nat → Bool) := (pm_up (pm_up x 75 ((0 + (6 * n)) + 5) v0) 74 0 ((x 74 0) + (1 : Int32)), w)
theorem e891_157 {sc : pm_Sc} (d : Nat) (n : Nat) (v0 : Int32) (x : Nat → Nat → Int32) (w : Nat → Nat → Bool) (f : Nat → Nat → Nat) (hc : n < 12) : pm_ev (pm_call pm_Tf sc (d + 3)) sc 0 pm_c89 157 [(3, .inl (Int32.ofNat (0 + (6 * n)))), (2, .inl 0), (0, pm_r 67), (1, .inl 1)] [.inl v0, .inl (Int32.ofNat ((0 + (6 * n)) + 5)), pm_r 75] (pm_u x w f) = some (pm_h0 f (q891_157 n v0 x w f)) := (s891_157_0 d n v0 x w f hc).trans (rfl)
set_option maxRecDepth 20000 in
theorem s891_133_0 {sc : pm_Sc} (d : Nat) (n : Nat) (v0 : Int32) (x : Nat → Nat → Int32) (w : Nat → Nat → Bool) (f : Nat → Nat → Nat) (hc : n < 12) : pm_ev (pm_call pm_Tf sc (d + 3)) sc 0 pm_c89 133 [(3, .inl (Int32.ofNat (0 + (6 * n)))), (2, .inl 0), (0, pm_r 67), (1, .inl 1)] [.inl v0, .inl (Int32.ofNat ((0 + (6 * n)) + 4)), pm_r 75] (pm_u x w f) = pm_ev (pm_call pm_Tf sc (d + 3)) sc 0 pm_c89 157 [(3, .inl (Int32.ofNat (0 + (6 * n)))), (2, .inl 0), (0, pm_r 67), (1, .inl 1)] [.inl 0, .inl (Int32.ofNat ((0 + (6 * n)) + 5)), pm_r 75] (pm_u (pm_up x 75 ((0 + (6 * n)) + 4) v0) w f) := by
  (rcases pm_lt12 hc with rfl | rfl | rfl | rfl | rfl | rfl | rfl | rfl | rfl | rfl | rfl | rfl) <;> exact (pm_ev_iter [85, 109, 122, 133, 157] 3000 _ _ _ _).trans rfl
def q891_133 (n : Nat) (v0 : Int32) (x : Nat → Nat → Int32) (w : Nat → Nat → Bool) (f : Nat → Nat → Nat) : (Nat → Nat → Int32) × (Nat → Nat → Bool) := q891_157 n 0 (pm_up x 75 ((0 + (6 * n)) + 4) v0) w f
theorem e891_133 {sc : pm_Sc} (d : Nat) (n : Nat) (v0 : Int32) (x : Nat → Nat → Int32) (w : Nat → Nat → Bool) (f : Nat → Nat → Nat) (hc : n < 12) : pm_ev (pm_call pm_Tf sc (d + 3)) sc 0 pm_c89 133 [(3, .inl (Int32.ofNat (0 + (6 * n)))), (2, .inl 0), (0, pm_r 67), (1, .inl 1)] [.inl v0, .inl (Int32.ofNat ((0 + (6 * n)) + 4)), pm_r 75] (pm_u x w f) = some (pm_h0 f (q891_133 n v0 x w f)) := (s891_133_0 d n v0 x w f hc).trans (e891_157 d  n 0 (pm_up x 75 ((0 + (6 * n)) + 4) v0) w f hc)
set_option maxRecDepth 20000 in
theorem s891_85_0 {sc : pm_Sc} (d : Nat) (n : Nat) (v0 : Int32) (x : Nat → Nat → Int32) (w : Nat → Nat → Bool) (f : Nat → Nat → Nat) (hc : n < 12) : pm_ev (pm_call pm_Tf sc (d + 3)) sc 0 pm_c89 85 [(3, .inl (Int32.ofNat (0 + (6 * n)))), (2, .inl 0), (0, pm_r 67), (1, .inl 1)] [.inl v0, .inl (Int32.ofNat ((0 + (6 * n)) + 1)), pm_r 75] (pm_u x w f) = pm_ev (pm_call pm_Tf sc (d + 3)) sc 0 pm_c89 109 [(3, .inl (Int32.ofNat (0 + (6 * n)))), (2, .inl 0), (0, pm_r 67), (1, .inl 1)] [.inl 1, pm_r 67, .inl (Int32.ofNat ((0 + (6 * n)) + 3)), pm_r 75] (pm_u (pm_up (pm_up x 75 ((0 + (6 * n)) + 1) v0) 75 ((0 + (6 * n)) + 2) (x 69 1)) w f) := by
  (rcases pm_lt12 hc with rfl | rfl | rfl | rfl | rfl | rfl | rfl | rfl | rfl | rfl | rfl | rfl) <;> exact (pm_ev_iter [85, 109, 122, 133, 157] 3000 _ _ _ _).trans rfl
theorem s891_85_1 {sc : pm_Sc} (d : Nat) (n : Nat) (v0 : Int32) (x : Nat → Nat → Int32) (w : Nat → Nat → Bool) (f : Nat → Nat → Nat) (hc : n < 12) : pm_ev (pm_call pm_Tf sc (d + 3)) sc 0 pm_c89 109 [(3, .inl (Int32.ofNat (0 + (6 * n)))), (2, .inl 0), (0, pm_r 67), (1, .inl 1)] [.inl 1, pm_r 67, .inl (Int32.ofNat ((0 + (6 * n)) + 3)), pm_r 75] (pm_u (pm_up (pm_up x 75 ((0 + (6 * n)) + 1) v0) 75 ((0 + (6 * n)) + 2) (x 69 1)) w f) = pm_call1 (fun v u => pm_ev (pm_call pm_Tf sc (d + 3)) sc 0 pm_c89 112 [(3, .inl (Int32.ofNat (0 + (6 * n)))), (2, .inl 0), (0, pm_r 67), (1, .inl 1)] (v.toList ++ [.inl (Int32.ofNat ((0 + (6 * n)) + 3)), pm_r 75]) u) none ((pm_call pm_Tf sc (d + 3)) 84 [pm_r 67, .inl 1] (pm_u (pm_up (pm_up x 75 ((0 + (6 * n)) + 1) v0) 75 ((0 + (6 * n)) + 2) (x 69 1)) w f)) := by
  (rcases pm_lt12 hc with rfl | rfl | rfl | rfl | rfl | rfl | rfl | rfl | rfl | rfl | rfl | rfl) <;> exact (pm_ev_step _ _ _ _).trans rfl
set_option maxRecDepth 20000 in
theorem s891_85_2 {sc : pm_Sc} (d : Nat) (n : Nat) (v0 : Int32) (x : Nat → Nat → Int32) (w : Nat → Nat → Bool) (f : Nat → Nat → Nat) (hc : n < 12) : pm_ev (pm_call pm_Tf sc (d + 3)) sc 0 pm_c89 112 [(3, .inl (Int32.ofNat (0 + (6 * n)))), (2, .inl 0), (0, pm_r 67), (1, .inl 1)] [.inl (q841 (pm_up (pm_up x 75 ((0 + (6 * n)) + 1) v0) 75 ((0 + (6 * n)) + 2) (x 69 1)) w f), .inl (Int32.ofNat ((0 + (6 * n)) + 3)), pm_r 75] (pm_u (pm_up (pm_up x 75 ((0 + (6 * n)) + 1) v0) 75 ((0 + (6 * n)) + 2) (x 69 1)) w f) = pm_ev (pm_call pm_Tf sc (d + 3)) sc 0 pm_c89 122 [(3, .inl (Int32.ofNat (0 + (6 * n)))), (2, .inl 0), (0, pm_r 67), (1, .inl 1)] [.inl 1, pm_r 67, .inl (Int32.ofNat ((0 + (6 * n)) + 4)), pm_r 75] (pm_u (pm_up (pm_up (pm_up x 75 ((0 + (6 * n)) + 1) v0) 75 ((0 + (6 * n)) + 2) (x 69 1)) 75 ((0 + (6 * n)) + 3) (q841 (pm_up (pm_up x 75 ((0 + (6 * n)) + 1) v0) 75 ((0 + (6 * n)) + 2) (x 69 1)) w f)) w f) := by
  (rcases pm_lt12 hc with rfl | rfl | rfl | rfl | rfl | rfl | rfl | rfl | rfl | rfl | rfl | rfl) <;> exact (pm_ev_iter [85, 109, 122, 133, 157] 3000 _ _ _ _).trans rfl
theorem s891_85_3 {sc : pm_Sc} (d : Nat) (n : Nat) (v0 : Int32) (x : Nat → Nat → Int32) (w : Nat → Nat → Bool) (f : Nat → Nat → Nat) (hc : n < 12) : pm_ev (pm_call pm_Tf sc (d + 3)) sc 0 pm_c89 122 [(3, .inl (Int32.ofNat (0 + (6 * n)))), (2, .inl 0), (0, pm_r 67), (1, .inl 1)] [.inl 1, pm_r 67, .inl (Int32.ofNat ((0 + (6 * n)) + 4)), pm_r 75] (pm_u (pm_up (pm_up (pm_up x 75 ((0 + (6 * n)) + 1) v0) 75 ((0 + (6 * n)) + 2) (x 69 1)) 75 ((0 + (6 * n)) + 3) (q841 (pm_up (pm_up x 75 ((0 + (6 * n)) + 1) v0) 75 ((0 + (6 * n)) + 2) (x 69 1)) w f)) w f) = pm_call1 (fun v u => pm_ev (pm_call pm_Tf sc (d + 3)) sc 0 pm_c89 125 [(3, .inl (Int32.ofNat (0 + (6 * n)))), (2, .inl 0), (0, pm_r 67), (1, .inl 1)] (v.toList ++ [.inl (Int32.ofNat ((0 + (6 * n)) + 4)), pm_r 75]) u) none ((pm_call pm_Tf sc (d + 3)) 83 [pm_r 67, .inl 1] (pm_u (pm_up (pm_up (pm_up x 75 ((0 + (6 * n)) + 1) v0) 75 ((0 + (6 * n)) + 2) (x 69 1)) 75 ((0 + (6 * n)) + 3) (q841 (pm_up (pm_up x 75 ((0 + (6 * n)) + 1) v0) 75 ((0 + (6 * n)) + 2) (x 69 1)) w f)) w f)) := by
  (rcases pm_lt12 hc with rfl | rfl | rfl | rfl | rfl | rfl | rfl | rfl | rfl | rfl | rfl | rfl) <;> exact (pm_ev_step _ _ _ _).trans rfl
set_option maxRecDepth 20000 in
theorem s891_85_4 {sc : pm_Sc} (d : Nat) (n : Nat) (v0 : Int32) (x : Nat → Nat → Int32) (w : Nat → Nat → Bool) (f : Nat → Nat → Nat) (hc : n < 12) : pm_ev (pm_call pm_Tf sc (d + 3)) sc 0 pm_c89 125 [(3, .inl (Int32.ofNat (0 + (6 * n)))), (2, .inl 0), (0, pm_r 67), (1, .inl 1)] [pm_b (q831 (pm_up (pm_up (pm_up x 75 ((0 + (6 * n)) + 1) v0) 75 ((0 + (6 * n)) + 2) (x 69 1)) 75 ((0 + (6 * n)) + 3) (q841 (pm_up (pm_up x 75 ((0 + (6 * n)) + 1) v0) 75 ((0 + (6 * n)) + 2) (x 69 1)) w f)) w f), .inl (Int32.ofNat ((0 + (6 * n)) + 4)), pm_r 75] (pm_u (pm_up (pm_up (pm_up x 75 ((0 + (6 * n)) + 1) v0) 75 ((0 + (6 * n)) + 2) (x 69 1)) 75 ((0 + (6 * n)) + 3) (q841 (pm_up (pm_up x 75 ((0 + (6 * n)) + 1) v0) 75 ((0 + (6 * n)) + 2) (x 69 1)) w f)) w f) = (if (q831 (pm_up (pm_up (pm_up x 75 ((0 + (6 * n)) + 1) v0) 75 ((0 + (6 * n)) + 2) (x 69 1)) 75 ((0 + (6 * n)) + 3) (q841 (pm_up (pm_up x 75 ((0 + (6 * n)) + 1) v0) 75 ((0 + (6 * n)) + 2) (x 69 1)) w f)) w f) = true then pm_ev (pm_call pm_Tf sc (d + 3)) sc 0 pm_c89 133 [(3, .inl (Int32.ofNat (0 + (6 * n)))), (2, .inl 0), (0, pm_r 67), (1, .inl 1)] [.inl 1, .inl (Int32.ofNat ((0 + (6 * n)) + 4)), pm_r 75] (pm_u (pm_up (pm_up (pm_up x 75 ((0 + (6 * n)) + 1) v0) 75 ((0 + (6 * n)) + 2) (x 69 1)) 75 ((0 + (6 * n)) + 3) (q841 (pm_up (pm_up x 75 ((0 + (6 * n)) + 1) v0) 75 ((0 + (6 * n)) + 2) (x 69 1)) w f)) w f) else pm_ev (pm_call pm_Tf sc (d + 3)) sc 0 pm_c89 133 [(3, .inl (Int32.ofNat (0 + (6 * n)))), (2, .inl 0), (0, pm_r 67), (1, .inl 1)] [.inl 0, .inl (Int32.ofNat ((0 + (6 * n)) + 4)), pm_r 75] (pm_u (pm_up (pm_up (pm_up x 75 ((0 + (6 * n)) + 1) v0) 75 ((0 + (6 * n)) + 2) (x 69 1)) 75 ((0 + (6 * n)) + 3) (q841 (pm_up (pm_up x 75 ((0 + (6 * n)) + 1) v0) 75 ((0 + (6 * n)) + 2) (x 69 1)) w f)) w f)) := by
  (rcases pm_lt12 hc with rfl | rfl | rfl | rfl | rfl | rfl | rfl | rfl | rfl | rfl | rfl | rfl) <;> exact (pm_ev_iter [85, 109, 122, 133, 157] 3000 _ _ _ _).trans rfl
def q891_85 (n : Nat) (v0 : Int32) (x : Nat → Nat → Int32) (w : Nat → Nat → Bool) (f : Nat → Nat → Nat) : (Nat → Nat → Int32) × (Nat → Nat → Bool) := (if (q831 (pm_up (pm_up (pm_up x 75 ((0 + (6 * n)) + 1) v0) 75 ((0 + (6 * n)) + 2) (x 69 1)) 75 ((0 + (6 * n)) + 3) (q841 (pm_up (pm_up x 75 ((0 + (6 * n)) + 1) v0) 75 ((0 + (6 * n)) + 2) (x 69 1)) w f)) w f) = true then q891_133 n 1 (pm_up (pm_up (pm_up x 75 ((0 + (6 * n)) + 1) v0) 75 ((0 + (6 * n)) + 2) (x 69 1)) 75 ((0 + (6 * n)) + 3) (q841 (pm_up (pm_up x 75 ((0 + (6 * n)) + 1) v0) 75 ((0 + (6 * n)) + 2) (x 69 1)) w f)) w f else q891_133 n 0 (pm_up (pm_up (pm_up x 75 ((0 + (6 * n)) + 1) v0) 75 ((0 + (6 * n)) + 2) (x 69 1)) 75 ((0 + (6 * n)) + 3) (q841 (pm_up (pm_up x 75 ((0 + (6 * n)) + 1) v0) 75 ((0 + (6 * n)) + 2) (x 69 1)) w f)) w f)
theorem e891_85 {sc : pm_Sc} (d : Nat) (n : Nat) (v0 : Int32) (x : Nat → Nat → Int32) (w : Nat → Nat → Bool) (f : Nat → Nat → Nat) (hc : n < 12) : pm_ev (pm_call pm_Tf sc (d + 3)) sc 0 pm_c89 85 [(3, .inl (Int32.ofNat (0 + (6 * n)))), (2, .inl 0), (0, pm_r 67), (1, .inl 1)] [.inl v0, .inl (Int32.ofNat ((0 + (6 * n)) + 1)), pm_r 75] (pm_u x w f) = some (pm_h0 f (q891_85 n v0 x w f)) := (s891_85_0 d n v0 x w f hc).trans (((s891_85_1 d n v0 x w f hc).trans ((pm_call1_of (z841 (d + 3) (pm_up (pm_up x 75 ((0 + (6 * n)) + 1) v0) 75 ((0 + (6 * n)) + 2) (x 69 1)) w f)).trans ((s891_85_2 d n v0 x w f hc).trans (((s891_85_3 d n v0 x w f hc).trans ((pm_call1_of (z831 (d + 0) (pm_up (pm_up (pm_up x 75 ((0 + (6 * n)) + 1) v0) 75 ((0 + (6 * n)) + 2) (x 69 1)) 75 ((0 + (6 * n)) + 3) (q841 (pm_up (pm_up x 75 ((0 + (6 * n)) + 1) v0) 75 ((0 + (6 * n)) + 2) (x 69 1)) w f)) w f)).trans ((s891_85_4 d n v0 x w f hc).trans (pm_iteG (g := (fun t => some (pm_h0 f t))) (fun _ => e891_133 d  n 1 (pm_up (pm_up (pm_up x 75 ((0 + (6 * n)) + 1) v0) 75 ((0 + (6 * n)) + 2) (x 69 1)) 75 ((0 + (6 * n)) + 3) (q841 (pm_up (pm_up x 75 ((0 + (6 * n)) + 1) v0) 75 ((0 + (6 * n)) + 2) (x 69 1)) w f)) w f hc) (fun _ => e891_133 d  n 0 (pm_up (pm_up (pm_up x 75 ((0 + (6 * n)) + 1) v0) 75 ((0 + (6 * n)) + 2) (x 69 1)) 75 ((0 + (6 * n)) + 3) (q841 (pm_up (pm_up x 75 ((0 + (6 * n)) + 1) v0) 75 ((0 + (6 * n)) + 2) (x 69 1)) w f)) w f hc))))))))))
set_option maxRecDepth 20000 in
theorem s891_0 {sc : pm_Sc} (d : Nat) (n : Nat) (x : Nat → Nat → Int32) (w : Nat → Nat → Bool) (f : Nat → Nat → Nat) (hc : n < 12) : pm_ev (pm_call pm_Tf sc (d + 3)) sc 0 pm_c89 0 [(0, pm_r 67), (1, .inl 1)] [] (pm_u (pm_up x 74 0 (Int32.ofNat n)) w f) = (if ((x 68 1) - (x 68 1) / (5 : Int32) * (5 : Int32)) = 0 then (if (Int32.ofNat n) = 12 then some (none, pm_u (pm_up x 74 0 (Int32.ofNat n)) w f) else (if (w 72 1) = true then pm_ev (pm_call pm_Tf sc (d + 3)) sc 0 pm_c89 85 [(3, .inl (Int32.ofNat (0 + (6 * n)))), (2, .inl 0), (0, pm_r 67), (1, .inl 1)] [.inl (x 73 6), .inl (Int32.ofNat ((0 + (6 * n)) + 1)), pm_r 75] (pm_u (pm_up (pm_up x 74 0 (Int32.ofNat n)) 75 (0 + (6 * n)) ((x 68 1) / (5 : Int32))) w f) else pm_ev (pm_call pm_Tf sc (d + 3)) sc 0 pm_c89 85 [(3, .inl (Int32.ofNat (0 + (6 * n)))), (2, .inl 0), (0, pm_r 67), (1, .inl 1)] [.inl 0, .inl (Int32.ofNat ((0 + (6 * n)) + 1)), pm_r 75] (pm_u (pm_up (pm_up x 74 0 (Int32.ofNat n)) 75 (0 + (6 * n)) ((x 68 1) / (5 : Int32))) w f))) else some (none, pm_u (pm_up x 74 0 (Int32.ofNat n)) w f)) := by
  (rcases pm_lt12 hc with rfl | rfl | rfl | rfl | rfl | rfl | rfl | rfl | rfl | rfl | rfl | rfl) <;> exact (pm_ev_iter [85, 109, 122, 133, 157] 3000 _ _ _ _).trans rfl
def q891 (n : Nat) (x : Nat → Nat → Int32) (w : Nat → Nat → Bool) (f : Nat → Nat → Nat) : (Nat → Nat → Int32) × (Nat → Nat → Bool) := (if ((x 68 1) - (x 68 1) / (5 : Int32) * (5 : Int32)) = 0 then (if (Int32.ofNat n) = 12 then (pm_up x 74 0 (Int32.ofNat n), w) else (if (w 72 1) = true then q891_85 n (x 73 6) (pm_up (pm_up x 74 0 (Int32.ofNat n)) 75 (0 + (6 * n)) ((x 68 1) / (5 : Int32))) w f else q891_85 n 0 (pm_up (pm_up x 74 0 (Int32.ofNat n)) 75 (0 + (6 * n)) ((x 68 1) / (5 : Int32))) w f)) else (pm_up x 74 0 (Int32.ofNat n), w))
theorem e891 {sc : pm_Sc} (d : Nat) (n : Nat) (x : Nat → Nat → Int32) (w : Nat → Nat → Bool) (f : Nat → Nat → Nat) (hc : n < 12) : pm_ev (pm_call pm_Tf sc (d + 3)) sc 0 pm_c89 0 [(0, pm_r 67), (1, .inl 1)] [] (pm_u (pm_up x 74 0 (Int32.ofNat n)) w f) = some (pm_h0 f (q891 n x w f)) := (s891_0 d n x w f hc).trans (pm_iteG (g := (fun t => some (pm_h0 f t))) (fun _ => pm_iteG (g := (fun t => some (pm_h0 f t))) (fun _ => rfl) (fun _ => pm_iteG (g := (fun t => some (pm_h0 f t))) (fun _ => e891_85 d  n (x 73 6) (pm_up (pm_up x 74 0 (Int32.ofNat n)) 75 (0 + (6 * n)) ((x 68 1) / (5 : Int32))) w f hc) (fun _ => e891_85 d  n 0 (pm_up (pm_up x 74 0 (Int32.ofNat n)) 75 (0 + (6 * n)) ((x 68 1) / (5 : Int32))) w f hc))) (fun _ => rfl))
theorem z891 {sc : pm_Sc} (d : Nat) (n : Nat) (x : Nat → Nat → Int32) (w : Nat → Nat → Bool) (f : Nat → Nat → Nat) (hc : n < 12) : pm_call pm_Tf sc (d + 4) 89 [pm_r 67, .inl 1] (pm_u (pm_up x 74 0 (Int32.ofNat n)) w f) = some (pm_h0 f (q891 n x w f)) := e891 d n x w f hc
theorem s900_78_7_0 {sc : pm_Sc} (d : Nat) (v0 : Int32) (x : Nat → Nat → Int32) (w : Nat → Nat → Bool) (f : Nat → Nat → Nat) : pm_ev (pm_call pm_Tf sc (d + 4)) sc 0 pm_c90 78 [(3, .inl 7), (2, .inl v0), (0, pm_r 67), (1, .inl 0)] [] (pm_u x w f) = pm_ev (pm_call pm_Tf sc (d + 4)) sc 0 pm_c90 84 [(3, .inl 8), (2, .inl v0), (0, pm_r 67), (1, .inl 0)] [] (pm_u x w f) := by
  exact (pm_ev_iter [49, 61, 75, 84, 86] 3000 _ _ _ _).trans rfl
def q900_78_7 (v0 : Int32) (x : Nat → Nat → Int32) (w : Nat → Nat → Bool) (f : Nat → Nat → Nat) : Int32 × (Nat → Nat → Int32) × (Nat → Nat → Bool) := (v0, x, w)
theorem e900_78_7 {sc : pm_Sc} (d : Nat) (v0 : Int32) (x : Nat → Nat → Int32) (w : Nat → Nat → Bool) (f : Nat → Nat → Nat) : pm_ev (pm_call pm_Tf sc (d + 4)) sc 0 pm_c90 78 [(3, .inl 7), (2, .inl v0), (0, pm_r 67), (1, .inl 0)] [] (pm_u x w f) = pm_ev (pm_call pm_Tf sc (d + 4)) sc 0 pm_c90 84 [(3, .inl 8), (2, .inl ((q900_78_7 v0 x w f).1)), (0, pm_r 67), (1, .inl 0)] [] (pm_u (q900_78_7 v0 x w f).2.1 (q900_78_7 v0 x w f).2.2 f) := (s900_78_7_0 d v0 x w f).trans (rfl)
theorem s900_78_6_0 {sc : pm_Sc} (d : Nat) (v0 : Int32) (x : Nat → Nat → Int32) (w : Nat → Nat → Bool) (f : Nat → Nat → Nat) : pm_ev (pm_call pm_Tf sc (d + 4)) sc 0 pm_c90 78 [(3, .inl 6), (2, .inl v0), (0, pm_r 67), (1, .inl 0)] [] (pm_u x w f) = pm_ev (pm_call pm_Tf sc (d + 4)) sc 0 pm_c90 75 [(3, .inl 7), (2, .inl v0), (0, pm_r 67), (1, .inl 0)] [.inl 7, .inl 0, pm_r 67] (pm_u x w f) := by
  exact (pm_ev_iter [49, 61, 75, 84, 86] 3000 _ _ _ _).trans rfl
theorem s900_78_6_1 {sc : pm_Sc} (d : Nat) (v0 : Int32) (x : Nat → Nat → Int32) (w : Nat → Nat → Bool) (f : Nat → Nat → Nat) : pm_ev (pm_call pm_Tf sc (d + 4)) sc 0 pm_c90 75 [(3, .inl 7), (2, .inl v0), (0, pm_r 67), (1, .inl 0)] [.inl 7, .inl 0, pm_r 67] (pm_u x w f) = pm_call1 (fun v u => pm_ev (pm_call pm_Tf sc (d + 4)) sc 0 pm_c90 78 [(3, .inl 7), (2, .inl v0), (0, pm_r 67), (1, .inl 0)] (v.toList ++ []) u) none ((pm_call pm_Tf sc (d + 4)) 88 [pm_r 67, .inl 0, .inl 7] (pm_u x w f)) := by
  exact (pm_ev_step _ _ _ _).trans rfl
def q900_78_6 (v0 : Int32) (x : Nat → Nat → Int32) (w : Nat → Nat → Bool) (f : Nat → Nat → Nat) : Int32 × (Nat → Nat → Int32) × (Nat → Nat → Bool) := q900_78_7 v0 ((q880 7 x w f).1) ((q880 7 x w f).2) f
theorem e900_78_6 {sc : pm_Sc} (d : Nat) (v0 : Int32) (x : Nat → Nat → Int32) (w : Nat → Nat → Bool) (f : Nat → Nat → Nat) : pm_ev (pm_call pm_Tf sc (d + 4)) sc 0 pm_c90 78 [(3, .inl 6), (2, .inl v0), (0, pm_r 67), (1, .inl 0)] [] (pm_u x w f) = pm_ev (pm_call pm_Tf sc (d + 4)) sc 0 pm_c90 84 [(3, .inl 8), (2, .inl ((q900_78_6 v0 x w f).1)), (0, pm_r 67), (1, .inl 0)] [] (pm_u (q900_78_6 v0 x w f).2.1 (q900_78_6 v0 x w f).2.2 f) := (s900_78_6_0 d v0 x w f).trans (((s900_78_6_1 d v0 x w f).trans ((pm_call1_of (z880 (d + 3) 7 x w f (by decide))).trans (e900_78_7 d  v0 ((q880 7 x w f).1) ((q880 7 x w f).2) f))))
theorem s900_78_5_0 {sc : pm_Sc} (d : Nat) (v0 : Int32) (x : Nat → Nat → Int32) (w : Nat → Nat → Bool) (f : Nat → Nat → Nat) : pm_ev (pm_call pm_Tf sc (d + 4)) sc 0 pm_c90 78 [(3, .inl 5), (2, .inl v0), (0, pm_r 67), (1, .inl 0)] [] (pm_u x w f) = pm_ev (pm_call pm_Tf sc (d + 4)) sc 0 pm_c90 75 [(3, .inl 6), (2, .inl v0), (0, pm_r 67), (1, .inl 0)] [.inl 6, .inl 0, pm_r 67] (pm_u x w f) := by
  exact (pm_ev_iter [49, 61, 75, 84, 86] 3000 _ _ _ _).trans rfl
theorem s900_78_5_1 {sc : pm_Sc} (d : Nat) (v0 : Int32) (x : Nat → Nat → Int32) (w : Nat → Nat → Bool) (f : Nat → Nat → Nat) : pm_ev (pm_call pm_Tf sc (d + 4)) sc 0 pm_c90 75 [(3, .inl 6), (2, .inl v0), (0, pm_r 67), (1, .inl 0)] [.inl 6, .inl 0, pm_r 67] (pm_u x w f) = pm_call1 (fun v u => pm_ev (pm_call pm_Tf sc (d + 4)) sc 0 pm_c90 78 [(3, .inl 6), (2, .inl v0), (0, pm_r 67), (1, .inl 0)] (v.toList ++ []) u) none ((pm_call pm_Tf sc (d + 4)) 88 [pm_r 67, .inl 0, .inl 6] (pm_u x w f)) := by
  exact (pm_ev_step _ _ _ _).trans rfl
def q900_78_5 (v0 : Int32) (x : Nat → Nat → Int32) (w : Nat → Nat → Bool) (f : Nat → Nat → Nat) : Int32 × (Nat → Nat → Int32) × (Nat → Nat → Bool) := q900_78_6 v0 ((q880 6 x w f).1) ((q880 6 x w f).2) f
theorem e900_78_5 {sc : pm_Sc} (d : Nat) (v0 : Int32) (x : Nat → Nat → Int32) (w : Nat → Nat → Bool) (f : Nat → Nat → Nat) : pm_ev (pm_call pm_Tf sc (d + 4)) sc 0 pm_c90 78 [(3, .inl 5), (2, .inl v0), (0, pm_r 67), (1, .inl 0)] [] (pm_u x w f) = pm_ev (pm_call pm_Tf sc (d + 4)) sc 0 pm_c90 84 [(3, .inl 8), (2, .inl ((q900_78_5 v0 x w f).1)), (0, pm_r 67), (1, .inl 0)] [] (pm_u (q900_78_5 v0 x w f).2.1 (q900_78_5 v0 x w f).2.2 f) := (s900_78_5_0 d v0 x w f).trans (((s900_78_5_1 d v0 x w f).trans ((pm_call1_of (z880 (d + 3) 6 x w f (by decide))).trans (e900_78_6 d  v0 ((q880 6 x w f).1) ((q880 6 x w f).2) f))))
theorem s900_78_4_0 {sc : pm_Sc} (d : Nat) (v0 : Int32) (x : Nat → Nat → Int32) (w : Nat → Nat → Bool) (f : Nat → Nat → Nat) : pm_ev (pm_call pm_Tf sc (d + 4)) sc 0 pm_c90 78 [(3, .inl 4), (2, .inl v0), (0, pm_r 67), (1, .inl 0)] [] (pm_u x w f) = pm_ev (pm_call pm_Tf sc (d + 4)) sc 0 pm_c90 75 [(3, .inl 5), (2, .inl v0), (0, pm_r 67), (1, .inl 0)] [.inl 5, .inl 0, pm_r 67] (pm_u x w f) := by
  exact (pm_ev_iter [49, 61, 75, 84, 86] 3000 _ _ _ _).trans rfl
theorem s900_78_4_1 {sc : pm_Sc} (d : Nat) (v0 : Int32) (x : Nat → Nat → Int32) (w : Nat → Nat → Bool) (f : Nat → Nat → Nat) : pm_ev (pm_call pm_Tf sc (d + 4)) sc 0 pm_c90 75 [(3, .inl 5), (2, .inl v0), (0, pm_r 67), (1, .inl 0)] [.inl 5, .inl 0, pm_r 67] (pm_u x w f) = pm_call1 (fun v u => pm_ev (pm_call pm_Tf sc (d + 4)) sc 0 pm_c90 78 [(3, .inl 5), (2, .inl v0), (0, pm_r 67), (1, .inl 0)] (v.toList ++ []) u) none ((pm_call pm_Tf sc (d + 4)) 88 [pm_r 67, .inl 0, .inl 5] (pm_u x w f)) := by
  exact (pm_ev_step _ _ _ _).trans rfl
def q900_78_4 (v0 : Int32) (x : Nat → Nat → Int32) (w : Nat → Nat → Bool) (f : Nat → Nat → Nat) : Int32 × (Nat → Nat → Int32) × (Nat → Nat → Bool) := q900_78_5 v0 ((q880 5 x w f).1) ((q880 5 x w f).2) f
theorem e900_78_4 {sc : pm_Sc} (d : Nat) (v0 : Int32) (x : Nat → Nat → Int32) (w : Nat → Nat → Bool) (f : Nat → Nat → Nat) : pm_ev (pm_call pm_Tf sc (d + 4)) sc 0 pm_c90 78 [(3, .inl 4), (2, .inl v0), (0, pm_r 67), (1, .inl 0)] [] (pm_u x w f) = pm_ev (pm_call pm_Tf sc (d + 4)) sc 0 pm_c90 84 [(3, .inl 8), (2, .inl ((q900_78_4 v0 x w f).1)), (0, pm_r 67), (1, .inl 0)] [] (pm_u (q900_78_4 v0 x w f).2.1 (q900_78_4 v0 x w f).2.2 f) := (s900_78_4_0 d v0 x w f).trans (((s900_78_4_1 d v0 x w f).trans ((pm_call1_of (z880 (d + 3) 5 x w f (by decide))).trans (e900_78_5 d  v0 ((q880 5 x w f).1) ((q880 5 x w f).2) f))))
theorem s900_78_3_0 {sc : pm_Sc} (d : Nat) (v0 : Int32) (x : Nat → Nat → Int32) (w : Nat → Nat → Bool) (f : Nat → Nat → Nat) : pm_ev (pm_call pm_Tf sc (d + 4)) sc 0 pm_c90 78 [(3, .inl 3), (2, .inl v0), (0, pm_r 67), (1, .inl 0)] [] (pm_u x w f) = pm_ev (pm_call pm_Tf sc (d + 4)) sc 0 pm_c90 75 [(3, .inl 4), (2, .inl v0), (0, pm_r 67), (1, .inl 0)] [.inl 4, .inl 0, pm_r 67] (pm_u x w f) := by
  exact (pm_ev_iter [49, 61, 75, 84, 86] 3000 _ _ _ _).trans rfl
theorem s900_78_3_1 {sc : pm_Sc} (d : Nat) (v0 : Int32) (x : Nat → Nat → Int32) (w : Nat → Nat → Bool) (f : Nat → Nat → Nat) : pm_ev (pm_call pm_Tf sc (d + 4)) sc 0 pm_c90 75 [(3, .inl 4), (2, .inl v0), (0, pm_r 67), (1, .inl 0)] [.inl 4, .inl 0, pm_r 67] (pm_u x w f) = pm_call1 (fun v u => pm_ev (pm_call pm_Tf sc (d + 4)) sc 0 pm_c90 78 [(3, .inl 4), (2, .inl v0), (0, pm_r 67), (1, .inl 0)] (v.toList ++ []) u) none ((pm_call pm_Tf sc (d + 4)) 88 [pm_r 67, .inl 0, .inl 4] (pm_u x w f)) := by
  exact (pm_ev_step _ _ _ _).trans rfl
def q900_78_3 (v0 : Int32) (x : Nat → Nat → Int32) (w : Nat → Nat → Bool) (f : Nat → Nat → Nat) : Int32 × (Nat → Nat → Int32) × (Nat → Nat → Bool) := q900_78_4 v0 ((q880 4 x w f).1) ((q880 4 x w f).2) f
theorem e900_78_3 {sc : pm_Sc} (d : Nat) (v0 : Int32) (x : Nat → Nat → Int32) (w : Nat → Nat → Bool) (f : Nat → Nat → Nat) : pm_ev (pm_call pm_Tf sc (d + 4)) sc 0 pm_c90 78 [(3, .inl 3), (2, .inl v0), (0, pm_r 67), (1, .inl 0)] [] (pm_u x w f) = pm_ev (pm_call pm_Tf sc (d + 4)) sc 0 pm_c90 84 [(3, .inl 8), (2, .inl ((q900_78_3 v0 x w f).1)), (0, pm_r 67), (1, .inl 0)] [] (pm_u (q900_78_3 v0 x w f).2.1 (q900_78_3 v0 x w f).2.2 f) := (s900_78_3_0 d v0 x w f).trans (((s900_78_3_1 d v0 x w f).trans ((pm_call1_of (z880 (d + 3) 4 x w f (by decide))).trans (e900_78_4 d  v0 ((q880 4 x w f).1) ((q880 4 x w f).2) f))))
theorem s900_78_2_0 {sc : pm_Sc} (d : Nat) (v0 : Int32) (x : Nat → Nat → Int32) (w : Nat → Nat → Bool) (f : Nat → Nat → Nat) : pm_ev (pm_call pm_Tf sc (d + 4)) sc 0 pm_c90 78 [(3, .inl 2), (2, .inl v0), (0, pm_r 67), (1, .inl 0)] [] (pm_u x w f) = pm_ev (pm_call pm_Tf sc (d + 4)) sc 0 pm_c90 75 [(3, .inl 3), (2, .inl v0), (0, pm_r 67), (1, .inl 0)] [.inl 3, .inl 0, pm_r 67] (pm_u x w f) := by
  exact (pm_ev_iter [49, 61, 75, 84, 86] 3000 _ _ _ _).trans rfl
theorem s900_78_2_1 {sc : pm_Sc} (d : Nat) (v0 : Int32) (x : Nat → Nat → Int32) (w : Nat → Nat → Bool) (f : Nat → Nat → Nat) : pm_ev (pm_call pm_Tf sc (d + 4)) sc 0 pm_c90 75 [(3, .inl 3), (2, .inl v0), (0, pm_r 67), (1, .inl 0)] [.inl 3, .inl 0, pm_r 67] (pm_u x w f) = pm_call1 (fun v u => pm_ev (pm_call pm_Tf sc (d + 4)) sc 0 pm_c90 78 [(3, .inl 3), (2, .inl v0), (0, pm_r 67), (1, .inl 0)] (v.toList ++ []) u) none ((pm_call pm_Tf sc (d + 4)) 88 [pm_r 67, .inl 0, .inl 3] (pm_u x w f)) := by
  exact (pm_ev_step _ _ _ _).trans rfl
def q900_78_2 (v0 : Int32) (x : Nat → Nat → Int32) (w : Nat → Nat → Bool) (f : Nat → Nat → Nat) : Int32 × (Nat → Nat → Int32) × (Nat → Nat → Bool) := q900_78_3 v0 ((q880 3 x w f).1) ((q880 3 x w f).2) f
theorem e900_78_2 {sc : pm_Sc} (d : Nat) (v0 : Int32) (x : Nat → Nat → Int32) (w : Nat → Nat → Bool) (f : Nat → Nat → Nat) : pm_ev (pm_call pm_Tf sc (d + 4)) sc 0 pm_c90 78 [(3, .inl 2), (2, .inl v0), (0, pm_r 67), (1, .inl 0)] [] (pm_u x w f) = pm_ev (pm_call pm_Tf sc (d + 4)) sc 0 pm_c90 84 [(3, .inl 8), (2, .inl ((q900_78_2 v0 x w f).1)), (0, pm_r 67), (1, .inl 0)] [] (pm_u (q900_78_2 v0 x w f).2.1 (q900_78_2 v0 x w f).2.2 f) := (s900_78_2_0 d v0 x w f).trans (((s900_78_2_1 d v0 x w f).trans ((pm_call1_of (z880 (d + 3) 3 x w f (by decide))).trans (e900_78_3 d  v0 ((q880 3 x w f).1) ((q880 3 x w f).2) f))))
theorem s900_78_1_0 {sc : pm_Sc} (d : Nat) (v0 : Int32) (x : Nat → Nat → Int32) (w : Nat → Nat → Bool) (f : Nat → Nat → Nat) : pm_ev (pm_call pm_Tf sc (d + 4)) sc 0 pm_c90 78 [(3, .inl 1), (2, .inl v0), (0, pm_r 67), (1, .inl 0)] [] (pm_u x w f) = pm_ev (pm_call pm_Tf sc (d + 4)) sc 0 pm_c90 75 [(3, .inl 2), (2, .inl v0), (0, pm_r 67), (1, .inl 0)] [.inl 2, .inl 0, pm_r 67] (pm_u x w f) := by
  exact (pm_ev_iter [49, 61, 75, 84, 86] 3000 _ _ _ _).trans rfl
theorem s900_78_1_1 {sc : pm_Sc} (d : Nat) (v0 : Int32) (x : Nat → Nat → Int32) (w : Nat → Nat → Bool) (f : Nat → Nat → Nat) : pm_ev (pm_call pm_Tf sc (d + 4)) sc 0 pm_c90 75 [(3, .inl 2), (2, .inl v0), (0, pm_r 67), (1, .inl 0)] [.inl 2, .inl 0, pm_r 67] (pm_u x w f) = pm_call1 (fun v u => pm_ev (pm_call pm_Tf sc (d + 4)) sc 0 pm_c90 78 [(3, .inl 2), (2, .inl v0), (0, pm_r 67), (1, .inl 0)] (v.toList ++ []) u) none ((pm_call pm_Tf sc (d + 4)) 88 [pm_r 67, .inl 0, .inl 2] (pm_u x w f)) := by
  exact (pm_ev_step _ _ _ _).trans rfl
def q900_78_1 (v0 : Int32) (x : Nat → Nat → Int32) (w : Nat → Nat → Bool) (f : Nat → Nat → Nat) : Int32 × (Nat → Nat → Int32) × (Nat → Nat → Bool) := q900_78_2 v0 ((q880 2 x w f).1) ((q880 2 x w f).2) f
theorem e900_78_1 {sc : pm_Sc} (d : Nat) (v0 : Int32) (x : Nat → Nat → Int32) (w : Nat → Nat → Bool) (f : Nat → Nat → Nat) : pm_ev (pm_call pm_Tf sc (d + 4)) sc 0 pm_c90 78 [(3, .inl 1), (2, .inl v0), (0, pm_r 67), (1, .inl 0)] [] (pm_u x w f) = pm_ev (pm_call pm_Tf sc (d + 4)) sc 0 pm_c90 84 [(3, .inl 8), (2, .inl ((q900_78_1 v0 x w f).1)), (0, pm_r 67), (1, .inl 0)] [] (pm_u (q900_78_1 v0 x w f).2.1 (q900_78_1 v0 x w f).2.2 f) := (s900_78_1_0 d v0 x w f).trans (((s900_78_1_1 d v0 x w f).trans ((pm_call1_of (z880 (d + 3) 2 x w f (by decide))).trans (e900_78_2 d  v0 ((q880 2 x w f).1) ((q880 2 x w f).2) f))))
theorem s900_78_0 {sc : pm_Sc} (d : Nat) (v0 : Int32) (x : Nat → Nat → Int32) (w : Nat → Nat → Bool) (f : Nat → Nat → Nat) : pm_ev (pm_call pm_Tf sc (d + 4)) sc 0 pm_c90 78 [(3, .inl 0), (2, .inl v0), (0, pm_r 67), (1, .inl 0)] [] (pm_u x w f) = pm_ev (pm_call pm_Tf sc (d + 4)) sc 0 pm_c90 75 [(3, .inl 1), (2, .inl v0), (0, pm_r 67), (1, .inl 0)] [.inl 1, .inl 0, pm_r 67] (pm_u x w f) := by
  exact (pm_ev_iter [49, 61, 75, 84, 86] 3000 _ _ _ _).trans rfl
theorem s900_78_1 {sc : pm_Sc} (d : Nat) (v0 : Int32) (x : Nat → Nat → Int32) (w : Nat → Nat → Bool) (f : Nat → Nat → Nat) : pm_ev (pm_call pm_Tf sc (d + 4)) sc 0 pm_c90 75 [(3, .inl 1), (2, .inl v0), (0, pm_r 67), (1, .inl 0)] [.inl 1, .inl 0, pm_r 67] (pm_u x w f) = pm_call1 (fun v u => pm_ev (pm_call pm_Tf sc (d + 4)) sc 0 pm_c90 78 [(3, .inl 1), (2, .inl v0), (0, pm_r 67), (1, .inl 0)] (v.toList ++ []) u) none ((pm_call pm_Tf sc (d + 4)) 88 [pm_r 67, .inl 0, .inl 1] (pm_u x w f)) := by
  exact (pm_ev_step _ _ _ _).trans rfl
def q900_78 (v0 : Int32) (x : Nat → Nat → Int32) (w : Nat → Nat → Bool) (f : Nat → Nat → Nat) : Int32 × (Nat → Nat → Int32) × (Nat → Nat → Bool) := q900_78_1 v0 ((q880 1 x w f).1) ((q880 1 x w f).2) f
theorem e900_78 {sc : pm_Sc} (d : Nat) (v0 : Int32) (x : Nat → Nat → Int32) (w : Nat → Nat → Bool) (f : Nat → Nat → Nat) : pm_ev (pm_call pm_Tf sc (d + 4)) sc 0 pm_c90 78 [(3, .inl 0), (2, .inl v0), (0, pm_r 67), (1, .inl 0)] [] (pm_u x w f) = pm_ev (pm_call pm_Tf sc (d + 4)) sc 0 pm_c90 84 [(3, .inl 8), (2, .inl ((q900_78 v0 x w f).1)), (0, pm_r 67), (1, .inl 0)] [] (pm_u (q900_78 v0 x w f).2.1 (q900_78 v0 x w f).2.2 f) := (s900_78_0 d v0 x w f).trans (((s900_78_1 d v0 x w f).trans ((pm_call1_of (z880 (d + 3) 1 x w f (by decide))).trans (e900_78_1 d  v0 ((q880 1 x w f).1) ((q880 1 x w f).2) f))))
theorem s900_64_0 {sc : pm_Sc} (d : Nat) (v0 : Int32) (x : Nat → Nat → Int32) (w : Nat → Nat → Bool) (f : Nat → Nat → Nat) : pm_ev (pm_call pm_Tf sc (d + 4)) sc 0 pm_c90 64 [(2, .inl v0), (0, pm_r 67), (1, .inl 0)] [] (pm_u x w f) = pm_ev (pm_call pm_Tf sc (d + 4)) sc 0 pm_c90 75 [(3, .inl 0), (2, .inl v0), (0, pm_r 67), (1, .inl 0)] [.inl 0, .inl 0, pm_r 67] (pm_u x w f) := by
  exact (pm_ev_iter [49, 61, 75, 84, 86] 3000 _ _ _ _).trans rfl
theorem s900_64_1 {sc : pm_Sc} (d : Nat) (v0 : Int32) (x : Nat → Nat → Int32) (w : Nat → Nat → Bool) (f : Nat → Nat → Nat) : pm_ev (pm_call pm_Tf sc (d + 4)) sc 0 pm_c90 75 [(3, .inl 0), (2, .inl v0), (0, pm_r 67), (1, .inl 0)] [.inl 0, .inl 0, pm_r 67] (pm_u x w f) = pm_call1 (fun v u => pm_ev (pm_call pm_Tf sc (d + 4)) sc 0 pm_c90 78 [(3, .inl 0), (2, .inl v0), (0, pm_r 67), (1, .inl 0)] (v.toList ++ []) u) none ((pm_call pm_Tf sc (d + 4)) 88 [pm_r 67, .inl 0, .inl 0] (pm_u x w f)) := by
  exact (pm_ev_step _ _ _ _).trans rfl
def q900_64 (v0 : Int32) (x : Nat → Nat → Int32) (w : Nat → Nat → Bool) (f : Nat → Nat → Nat) : Int32 × (Nat → Nat → Int32) × (Nat → Nat → Bool) := q900_78 v0 ((q880 0 x w f).1) ((q880 0 x w f).2) f
theorem e900_64 {sc : pm_Sc} (d : Nat) (v0 : Int32) (x : Nat → Nat → Int32) (w : Nat → Nat → Bool) (f : Nat → Nat → Nat) : pm_ev (pm_call pm_Tf sc (d + 4)) sc 0 pm_c90 64 [(2, .inl v0), (0, pm_r 67), (1, .inl 0)] [] (pm_u x w f) = pm_ev (pm_call pm_Tf sc (d + 4)) sc 0 pm_c90 84 [(3, .inl 8), (2, .inl ((q900_64 v0 x w f).1)), (0, pm_r 67), (1, .inl 0)] [] (pm_u (q900_64 v0 x w f).2.1 (q900_64 v0 x w f).2.2 f) := (s900_64_0 d v0 x w f).trans (((s900_64_1 d v0 x w f).trans ((pm_call1_of (z880 (d + 3) 0 x w f (by decide))).trans (e900_78 d  v0 ((q880 0 x w f).1) ((q880 0 x w f).2) f))))
theorem s900_49_0 {sc : pm_Sc} (d : Nat) (v0 : Int32) (x : Nat → Nat → Int32) (w : Nat → Nat → Bool) (f : Nat → Nat → Nat) : pm_ev (pm_call pm_Tf sc (d + 4)) sc 0 pm_c90 49 [(0, pm_r 67), (1, .inl 0)] [.inl v0, pm_r 67] (pm_u x w f) = pm_ev (pm_call pm_Tf sc (d + 4)) sc 0 pm_c90 61 [(2, .inl (x 71 1)), (0, pm_r 67), (1, .inl 0)] [.inl 0, pm_r 67] (pm_u (pm_up x 67 20 v0) w f) := by
  exact (pm_ev_iter [49, 61, 75, 84, 86] 3000 _ _ _ _).trans rfl
theorem s900_49_1 {sc : pm_Sc} (d : Nat) (v0 : Int32) (x : Nat → Nat → Int32) (w : Nat → Nat → Bool) (f : Nat → Nat → Nat) : pm_ev (pm_call pm_Tf sc (d + 4)) sc 0 pm_c90 61 [(2, .inl (x 71 1)), (0, pm_r 67), (1, .inl 0)] [.inl 0, pm_r 67] (pm_u (pm_up x 67 20 v0) w f) = pm_call1 (fun v u => pm_ev (pm_call pm_Tf sc (d + 4)) sc 0 pm_c90 64 [(2, .inl (x 71 1)), (0, pm_r 67), (1, .inl 0)] (v.toList ++ []) u) none ((pm_call pm_Tf sc (d + 4)) 87 [pm_r 67, .inl 0] (pm_u (pm_up x 67 20 v0) w f)) := by
  exact (pm_ev_step _ _ _ _).trans rfl
def q900_49 (v0 : Int32) (x : Nat → Nat → Int32) (w : Nat → Nat → Bool) (f : Nat → Nat → Nat) : Int32 × (Nat → Nat → Int32) × (Nat → Nat → Bool) := q900_64 (x 71 1) ((q870 (pm_up x 67 20 v0) w f).1) ((q870 (pm_up x 67 20 v0) w f).2) f
theorem e900_49 {sc : pm_Sc} (d : Nat) (v0 : Int32) (x : Nat → Nat → Int32) (w : Nat → Nat → Bool) (f : Nat → Nat → Nat) : pm_ev (pm_call pm_Tf sc (d + 4)) sc 0 pm_c90 49 [(0, pm_r 67), (1, .inl 0)] [.inl v0, pm_r 67] (pm_u x w f) = pm_ev (pm_call pm_Tf sc (d + 4)) sc 0 pm_c90 84 [(3, .inl 8), (2, .inl ((q900_49 v0 x w f).1)), (0, pm_r 67), (1, .inl 0)] [] (pm_u (q900_49 v0 x w f).2.1 (q900_49 v0 x w f).2.2 f) := (s900_49_0 d v0 x w f).trans (((s900_49_1 d v0 x w f).trans ((pm_call1_of (z870 (d + 1) (pm_up x 67 20 v0) w f)).trans (e900_64 d  (x 71 1) ((q870 (pm_up x 67 20 v0) w f).1) ((q870 (pm_up x 67 20 v0) w f).2) f))))
theorem s900_0 {sc : pm_Sc} (d : Nat)  (x : Nat → Nat → Int32) (w : Nat → Nat → Bool) (f : Nat → Nat → Nat) : pm_ev (pm_call pm_Tf sc (d + 4)) sc 0 pm_c90 0 [(0, pm_r 67), (1, .inl 0)] [] (pm_u x w f) = (if (x 67 18) = 0 then (if 1000 ≤ (x 67 20) then pm_ev (pm_call pm_Tf sc (d + 4)) sc 0 pm_c90 49 [(0, pm_r 67), (1, .inl 0)] [.inl (x 67 20), pm_r 67] (pm_u (pm_up x 68 0 ((x 68 0) + (1 : Int32))) w f) else pm_ev (pm_call pm_Tf sc (d + 4)) sc 0 pm_c90 49 [(0, pm_r 67), (1, .inl 0)] [.inl ((x 67 20) + (1 : Int32)), pm_r 67] (pm_u (pm_up x 68 0 ((x 68 0) + (1 : Int32))) w f)) else pm_ev (pm_call pm_Tf sc (d + 4)) sc 0 pm_c90 49 [(0, pm_r 67), (1, .inl 0)] [.inl 0, pm_r 67] (pm_u (pm_up x 68 0 ((x 68 0) + (1 : Int32))) w f)) := by
  exact (pm_ev_iter [49, 61, 75, 84, 86] 3000 _ _ _ _).trans rfl
def q900 (x : Nat → Nat → Int32) (w : Nat → Nat → Bool) (f : Nat → Nat → Nat) : Int32 × (Nat → Nat → Int32) × (Nat → Nat → Bool) := (if (x 67 18) = 0 then (if 1000 ≤ (x 67 20) then q900_49 (x 67 20) (pm_up x 68 0 ((x 68 0) + (1 : Int32))) w f else q900_49 ((x 67 20) + (1 : Int32)) (pm_up x 68 0 ((x 68 0) + (1 : Int32))) w f) else q900_49 0 (pm_up x 68 0 ((x 68 0) + (1 : Int32))) w f)
theorem e900 {sc : pm_Sc} (d : Nat)  (x : Nat → Nat → Int32) (w : Nat → Nat → Bool) (f : Nat → Nat → Nat) : pm_ev (pm_call pm_Tf sc (d + 4)) sc 0 pm_c90 0 [(0, pm_r 67), (1, .inl 0)] [] (pm_u x w f) = pm_ev (pm_call pm_Tf sc (d + 4)) sc 0 pm_c90 84 [(3, .inl 8), (2, .inl ((q900 x w f).1)), (0, pm_r 67), (1, .inl 0)] [] (pm_u (q900 x w f).2.1 (q900 x w f).2.2 f) := (s900_0 d  x w f).trans (pm_iteG (g := (fun (t : Int32 × (Nat → Nat → Int32) × (Nat → Nat → Bool)) => pm_ev (pm_call pm_Tf sc (d + 4)) sc 0 pm_c90 84 [(3, .inl 8), (2, .inl t.1), (0, pm_r 67), (1, .inl 0)] [] (pm_u t.2.1 t.2.2 f))) (fun _ => pm_iteG (g := (fun (t : Int32 × (Nat → Nat → Int32) × (Nat → Nat → Bool)) => pm_ev (pm_call pm_Tf sc (d + 4)) sc 0 pm_c90 84 [(3, .inl 8), (2, .inl t.1), (0, pm_r 67), (1, .inl 0)] [] (pm_u t.2.1 t.2.2 f))) (fun _ => e900_49 d  (x 67 20) (pm_up x 68 0 ((x 68 0) + (1 : Int32))) w f) (fun _ => e900_49 d  ((x 67 20) + (1 : Int32)) (pm_up x 68 0 ((x 68 0) + (1 : Int32))) w f)) (fun _ => e900_49 d  0 (pm_up x 68 0 ((x 68 0) + (1 : Int32))) w f))
theorem s901_78_7_0 {sc : pm_Sc} (d : Nat) (v0 : Int32) (x : Nat → Nat → Int32) (w : Nat → Nat → Bool) (f : Nat → Nat → Nat) : pm_ev (pm_call pm_Tf sc (d + 4)) sc 0 pm_c90 78 [(3, .inl 7), (2, .inl v0), (0, pm_r 67), (1, .inl 1)] [] (pm_u x w f) = pm_ev (pm_call pm_Tf sc (d + 4)) sc 0 pm_c90 84 [(3, .inl 8), (2, .inl v0), (0, pm_r 67), (1, .inl 1)] [] (pm_u x w f) := by
  exact (pm_ev_iter [49, 61, 75, 84, 86] 3000 _ _ _ _).trans rfl
def q901_78_7 (v0 : Int32) (x : Nat → Nat → Int32) (w : Nat → Nat → Bool) (f : Nat → Nat → Nat) : Int32 × (Nat → Nat → Int32) × (Nat → Nat → Bool) := (v0, x, w)
theorem e901_78_7 {sc : pm_Sc} (d : Nat) (v0 : Int32) (x : Nat → Nat → Int32) (w : Nat → Nat → Bool) (f : Nat → Nat → Nat) : pm_ev (pm_call pm_Tf sc (d + 4)) sc 0 pm_c90 78 [(3, .inl 7), (2, .inl v0), (0, pm_r 67), (1, .inl 1)] [] (pm_u x w f) = pm_ev (pm_call pm_Tf sc (d + 4)) sc 0 pm_c90 84 [(3, .inl 8), (2, .inl ((q901_78_7 v0 x w f).1)), (0, pm_r 67), (1, .inl 1)] [] (pm_u (q901_78_7 v0 x w f).2.1 (q901_78_7 v0 x w f).2.2 f) := (s901_78_7_0 d v0 x w f).trans (rfl)
theorem s901_78_6_0 {sc : pm_Sc} (d : Nat) (v0 : Int32) (x : Nat → Nat → Int32) (w : Nat → Nat → Bool) (f : Nat → Nat → Nat) : pm_ev (pm_call pm_Tf sc (d + 4)) sc 0 pm_c90 78 [(3, .inl 6), (2, .inl v0), (0, pm_r 67), (1, .inl 1)] [] (pm_u x w f) = pm_ev (pm_call pm_Tf sc (d + 4)) sc 0 pm_c90 75 [(3, .inl 7), (2, .inl v0), (0, pm_r 67), (1, .inl 1)] [.inl 7, .inl 1, pm_r 67] (pm_u x w f) := by
  exact (pm_ev_iter [49, 61, 75, 84, 86] 3000 _ _ _ _).trans rfl
theorem s901_78_6_1 {sc : pm_Sc} (d : Nat) (v0 : Int32) (x : Nat → Nat → Int32) (w : Nat → Nat → Bool) (f : Nat → Nat → Nat) : pm_ev (pm_call pm_Tf sc (d + 4)) sc 0 pm_c90 75 [(3, .inl 7), (2, .inl v0), (0, pm_r 67), (1, .inl 1)] [.inl 7, .inl 1, pm_r 67] (pm_u x w f) = pm_call1 (fun v u => pm_ev (pm_call pm_Tf sc (d + 4)) sc 0 pm_c90 78 [(3, .inl 7), (2, .inl v0), (0, pm_r 67), (1, .inl 1)] (v.toList ++ []) u) none ((pm_call pm_Tf sc (d + 4)) 88 [pm_r 67, .inl 1, .inl 7] (pm_u x w f)) := by
  exact (pm_ev_step _ _ _ _).trans rfl
def q901_78_6 (v0 : Int32) (x : Nat → Nat → Int32) (w : Nat → Nat → Bool) (f : Nat → Nat → Nat) : Int32 × (Nat → Nat → Int32) × (Nat → Nat → Bool) := q901_78_7 v0 ((q881 7 x w f).1) ((q881 7 x w f).2) f
theorem e901_78_6 {sc : pm_Sc} (d : Nat) (v0 : Int32) (x : Nat → Nat → Int32) (w : Nat → Nat → Bool) (f : Nat → Nat → Nat) : pm_ev (pm_call pm_Tf sc (d + 4)) sc 0 pm_c90 78 [(3, .inl 6), (2, .inl v0), (0, pm_r 67), (1, .inl 1)] [] (pm_u x w f) = pm_ev (pm_call pm_Tf sc (d + 4)) sc 0 pm_c90 84 [(3, .inl 8), (2, .inl ((q901_78_6 v0 x w f).1)), (0, pm_r 67), (1, .inl 1)] [] (pm_u (q901_78_6 v0 x w f).2.1 (q901_78_6 v0 x w f).2.2 f) := (s901_78_6_0 d v0 x w f).trans (((s901_78_6_1 d v0 x w f).trans ((pm_call1_of (z881 (d + 3) 7 x w f (by decide))).trans (e901_78_7 d  v0 ((q881 7 x w f).1) ((q881 7 x w f).2) f))))
theorem s901_78_5_0 {sc : pm_Sc} (d : Nat) (v0 : Int32) (x : Nat → Nat → Int32) (w : Nat → Nat → Bool) (f : Nat → Nat → Nat) : pm_ev (pm_call pm_Tf sc (d + 4)) sc 0 pm_c90 78 [(3, .inl 5), (2, .inl v0), (0, pm_r 67), (1, .inl 1)] [] (pm_u x w f) = pm_ev (pm_call pm_Tf sc (d + 4)) sc 0 pm_c90 75 [(3, .inl 6), (2, .inl v0), (0, pm_r 67), (1, .inl 1)] [.inl 6, .inl 1, pm_r 67] (pm_u x w f) := by
  exact (pm_ev_iter [49, 61, 75, 84, 86] 3000 _ _ _ _).trans rfl
theorem s901_78_5_1 {sc : pm_Sc} (d : Nat) (v0 : Int32) (x : Nat → Nat → Int32) (w : Nat → Nat → Bool) (f : Nat → Nat → Nat) : pm_ev (pm_call pm_Tf sc (d + 4)) sc 0 pm_c90 75 [(3, .inl 6), (2, .inl v0), (0, pm_r 67), (1, .inl 1)] [.inl 6, .inl 1, pm_r 67] (pm_u x w f) = pm_call1 (fun v u => pm_ev (pm_call pm_Tf sc (d + 4)) sc 0 pm_c90 78 [(3, .inl 6), (2, .inl v0), (0, pm_r 67), (1, .inl 1)] (v.toList ++ []) u) none ((pm_call pm_Tf sc (d + 4)) 88 [pm_r 67, .inl 1, .inl 6] (pm_u x w f)) := by
  exact (pm_ev_step _ _ _ _).trans rfl
def q901_78_5 (v0 : Int32) (x : Nat → Nat → Int32) (w : Nat → Nat → Bool) (f : Nat → Nat → Nat) : Int32 × (Nat → Nat → Int32) × (Nat → Nat → Bool) := q901_78_6 v0 ((q881 6 x w f).1) ((q881 6 x w f).2) f
theorem e901_78_5 {sc : pm_Sc} (d : Nat) (v0 : Int32) (x : Nat → Nat → Int32) (w : Nat → Nat → Bool) (f : Nat → Nat → Nat) : pm_ev (pm_call pm_Tf sc (d + 4)) sc 0 pm_c90 78 [(3, .inl 5), (2, .inl v0), (0, pm_r 67), (1, .inl 1)] [] (pm_u x w f) = pm_ev (pm_call pm_Tf sc (d + 4)) sc 0 pm_c90 84 [(3, .inl 8), (2, .inl ((q901_78_5 v0 x w f).1)), (0, pm_r 67), (1, .inl 1)] [] (pm_u (q901_78_5 v0 x w f).2.1 (q901_78_5 v0 x w f).2.2 f) := (s901_78_5_0 d v0 x w f).trans (((s901_78_5_1 d v0 x w f).trans ((pm_call1_of (z881 (d + 3) 6 x w f (by decide))).trans (e901_78_6 d  v0 ((q881 6 x w f).1) ((q881 6 x w f).2) f))))
theorem s901_78_4_0 {sc : pm_Sc} (d : Nat) (v0 : Int32) (x : Nat → Nat → Int32) (w : Nat → Nat → Bool) (f : Nat → Nat → Nat) : pm_ev (pm_call pm_Tf sc (d + 4)) sc 0 pm_c90 78 [(3, .inl 4), (2, .inl v0), (0, pm_r 67), (1, .inl 1)] [] (pm_u x w f) = pm_ev (pm_call pm_Tf sc (d + 4)) sc 0 pm_c90 75 [(3, .inl 5), (2, .inl v0), (0, pm_r 67), (1, .inl 1)] [.inl 5, .inl 1, pm_r 67] (pm_u x w f) := by
  exact (pm_ev_iter [49, 61, 75, 84, 86] 3000 _ _ _ _).trans rfl
theorem s901_78_4_1 {sc : pm_Sc} (d : Nat) (v0 : Int32) (x : Nat → Nat → Int32) (w : Nat → Nat → Bool) (f : Nat → Nat → Nat) : pm_ev (pm_call pm_Tf sc (d + 4)) sc 0 pm_c90 75 [(3, .inl 5), (2, .inl v0), (0, pm_r 67), (1, .inl 1)] [.inl 5, .inl 1, pm_r 67] (pm_u x w f) = pm_call1 (fun v u => pm_ev (pm_call pm_Tf sc (d + 4)) sc 0 pm_c90 78 [(3, .inl 5), (2, .inl v0), (0, pm_r 67), (1, .inl 1)] (v.toList ++ []) u) none ((pm_call pm_Tf sc (d + 4)) 88 [pm_r 67, .inl 1, .inl 5] (pm_u x w f)) := by
  exact (pm_ev_step _ _ _ _).trans rfl
def q901_78_4 (v0 : Int32) (x : Nat → Nat → Int32) (w : Nat → Nat → Bool) (f : Nat → Nat → Nat) : Int32 × (Nat → Nat → Int32) × (Nat → Nat → Bool) := q901_78_5 v0 ((q881 5 x w f).1) ((q881 5 x w f).2) f
theorem e901_78_4 {sc : pm_Sc} (d : Nat) (v0 : Int32) (x : Nat → Nat → Int32) (w : Nat → Nat → Bool) (f : Nat → Nat → Nat) : pm_ev (pm_call pm_Tf sc (d + 4)) sc 0 pm_c90 78 [(3, .inl 4), (2, .inl v0), (0, pm_r 67), (1, .inl 1)] [] (pm_u x w f) = pm_ev (pm_call pm_Tf sc (d + 4)) sc 0 pm_c90 84 [(3, .inl 8), (2, .inl ((q901_78_4 v0 x w f).1)), (0, pm_r 67), (1, .inl 1)] [] (pm_u (q901_78_4 v0 x w f).2.1 (q901_78_4 v0 x w f).2.2 f) := (s901_78_4_0 d v0 x w f).trans (((s901_78_4_1 d v0 x w f).trans ((pm_call1_of (z881 (d + 3) 5 x w f (by decide))).trans (e901_78_5 d  v0 ((q881 5 x w f).1) ((q881 5 x w f).2) f))))
theorem s901_78_3_0 {sc : pm_Sc} (d : Nat) (v0 : Int32) (x : Nat → Nat → Int32) (w : Nat → Nat → Bool) (f : Nat → Nat → Nat) : pm_ev (pm_call pm_Tf sc (d + 4)) sc 0 pm_c90 78 [(3, .inl 3), (2, .inl v0), (0, pm_r 67), (1, .inl 1)] [] (pm_u x w f) = pm_ev (pm_call pm_Tf sc (d + 4)) sc 0 pm_c90 75 [(3, .inl 4), (2, .inl v0), (0, pm_r 67), (1, .inl 1)] [.inl 4, .inl 1, pm_r 67] (pm_u x w f) := by
  exact (pm_ev_iter [49, 61, 75, 84, 86] 3000 _ _ _ _).trans rfl
theorem s901_78_3_1 {sc : pm_Sc} (d : Nat) (v0 : Int32) (x : Nat → Nat → Int32) (w : Nat → Nat → Bool) (f : Nat → Nat → Nat) : pm_ev (pm_call pm_Tf sc (d + 4)) sc 0 pm_c90 75 [(3, .inl 4), (2, .inl v0), (0, pm_r 67), (1, .inl 1)] [.inl 4, .inl 1, pm_r 67] (pm_u x w f) = pm_call1 (fun v u => pm_ev (pm_call pm_Tf sc (d + 4)) sc 0 pm_c90 78 [(3, .inl 4), (2, .inl v0), (0, pm_r 67), (1, .inl 1)] (v.toList ++ []) u) none ((pm_call pm_Tf sc (d + 4)) 88 [pm_r 67, .inl 1, .inl 4] (pm_u x w f)) := by
  exact (pm_ev_step _ _ _ _).trans rfl
def q901_78_3 (v0 : Int32) (x : Nat → Nat → Int32) (w : Nat → Nat → Bool) (f : Nat → Nat → Nat) : Int32 × (Nat → Nat → Int32) × (Nat → Nat → Bool) := q901_78_4 v0 ((q881 4 x w f).1) ((q881 4 x w f).2) f
theorem e901_78_3 {sc : pm_Sc} (d : Nat) (v0 : Int32) (x : Nat → Nat → Int32) (w : Nat → Nat → Bool) (f : Nat → Nat → Nat) : pm_ev (pm_call pm_Tf sc (d + 4)) sc 0 pm_c90 78 [(3, .inl 3), (2, .inl v0), (0, pm_r 67), (1, .inl 1)] [] (pm_u x w f) = pm_ev (pm_call pm_Tf sc (d + 4)) sc 0 pm_c90 84 [(3, .inl 8), (2, .inl ((q901_78_3 v0 x w f).1)), (0, pm_r 67), (1, .inl 1)] [] (pm_u (q901_78_3 v0 x w f).2.1 (q901_78_3 v0 x w f).2.2 f) := (s901_78_3_0 d v0 x w f).trans (((s901_78_3_1 d v0 x w f).trans ((pm_call1_of (z881 (d + 3) 4 x w f (by decide))).trans (e901_78_4 d  v0 ((q881 4 x w f).1) ((q881 4 x w f).2) f))))
theorem s901_78_2_0 {sc : pm_Sc} (d : Nat) (v0 : Int32) (x : Nat → Nat → Int32) (w : Nat → Nat → Bool) (f : Nat → Nat → Nat) : pm_ev (pm_call pm_Tf sc (d + 4)) sc 0 pm_c90 78 [(3, .inl 2), (2, .inl v0), (0, pm_r 67), (1, .inl 1)] [] (pm_u x w f) = pm_ev (pm_call pm_Tf sc (d + 4)) sc 0 pm_c90 75 [(3, .inl 3), (2, .inl v0), (0, pm_r 67), (1, .inl 1)] [.inl 3, .inl 1, pm_r 67] (pm_u x w f) := by
  exact (pm_ev_iter [49, 61, 75, 84, 86] 3000 _ _ _ _).trans rfl
theorem s901_78_2_1 {sc : pm_Sc} (d : Nat) (v0 : Int32) (x : Nat → Nat → Int32) (w : Nat → Nat → Bool) (f : Nat → Nat → Nat) : pm_ev (pm_call pm_Tf sc (d + 4)) sc 0 pm_c90 75 [(3, .inl 3), (2, .inl v0), (0, pm_r 67), (1, .inl 1)] [.inl 3, .inl 1, pm_r 67] (pm_u x w f) = pm_call1 (fun v u => pm_ev (pm_call pm_Tf sc (d + 4)) sc 0 pm_c90 78 [(3, .inl 3), (2, .inl v0), (0, pm_r 67), (1, .inl 1)] (v.toList ++ []) u) none ((pm_call pm_Tf sc (d + 4)) 88 [pm_r 67, .inl 1, .inl 3] (pm_u x w f)) := by
  exact (pm_ev_step _ _ _ _).trans rfl
def q901_78_2 (v0 : Int32) (x : Nat → Nat → Int32) (w : Nat → Nat → Bool) (f : Nat → Nat → Nat) : Int32 × (Nat → Nat → Int32) × (Nat → Nat → Bool) := q901_78_3 v0 ((q881 3 x w f).1) ((q881 3 x w f).2) f
theorem e901_78_2 {sc : pm_Sc} (d : Nat) (v0 : Int32) (x : Nat → Nat → Int32) (w : Nat → Nat → Bool) (f : Nat → Nat → Nat) : pm_ev (pm_call pm_Tf sc (d + 4)) sc 0 pm_c90 78 [(3, .inl 2), (2, .inl v0), (0, pm_r 67), (1, .inl 1)] [] (pm_u x w f) = pm_ev (pm_call pm_Tf sc (d + 4)) sc 0 pm_c90 84 [(3, .inl 8), (2, .inl ((q901_78_2 v0 x w f).1)), (0, pm_r 67), (1, .inl 1)] [] (pm_u (q901_78_2 v0 x w f).2.1 (q901_78_2 v0 x w f).2.2 f) := (s901_78_2_0 d v0 x w f).trans (((s901_78_2_1 d v0 x w f).trans ((pm_call1_of (z881 (d + 3) 3 x w f (by decide))).trans (e901_78_3 d  v0 ((q881 3 x w f).1) ((q881 3 x w f).2) f))))
theorem s901_78_1_0 {sc : pm_Sc} (d : Nat) (v0 : Int32) (x : Nat → Nat → Int32) (w : Nat → Nat → Bool) (f : Nat → Nat → Nat) : pm_ev (pm_call pm_Tf sc (d + 4)) sc 0 pm_c90 78 [(3, .inl 1), (2, .inl v0), (0, pm_r 67), (1, .inl 1)] [] (pm_u x w f) = pm_ev (pm_call pm_Tf sc (d + 4)) sc 0 pm_c90 75 [(3, .inl 2), (2, .inl v0), (0, pm_r 67), (1, .inl 1)] [.inl 2, .inl 1, pm_r 67] (pm_u x w f) := by
  exact (pm_ev_iter [49, 61, 75, 84, 86] 3000 _ _ _ _).trans rfl
theorem s901_78_1_1 {sc : pm_Sc} (d : Nat) (v0 : Int32) (x : Nat → Nat → Int32) (w : Nat → Nat → Bool) (f : Nat → Nat → Nat) : pm_ev (pm_call pm_Tf sc (d + 4)) sc 0 pm_c90 75 [(3, .inl 2), (2, .inl v0), (0, pm_r 67), (1, .inl 1)] [.inl 2, .inl 1, pm_r 67] (pm_u x w f) = pm_call1 (fun v u => pm_ev (pm_call pm_Tf sc (d + 4)) sc 0 pm_c90 78 [(3, .inl 2), (2, .inl v0), (0, pm_r 67), (1, .inl 1)] (v.toList ++ []) u) none ((pm_call pm_Tf sc (d + 4)) 88 [pm_r 67, .inl 1, .inl 2] (pm_u x w f)) := by
  exact (pm_ev_step _ _ _ _).trans rfl
def q901_78_1 (v0 : Int32) (x : Nat → Nat → Int32) (w : Nat → Nat → Bool) (f : Nat → Nat → Nat) : Int32 × (Nat → Nat → Int32) × (Nat → Nat → Bool) := q901_78_2 v0 ((q881 2 x w f).1) ((q881 2 x w f).2) f
theorem e901_78_1 {sc : pm_Sc} (d : Nat) (v0 : Int32) (x : Nat → Nat → Int32) (w : Nat → Nat → Bool) (f : Nat → Nat → Nat) : pm_ev (pm_call pm_Tf sc (d + 4)) sc 0 pm_c90 78 [(3, .inl 1), (2, .inl v0), (0, pm_r 67), (1, .inl 1)] [] (pm_u x w f) = pm_ev (pm_call pm_Tf sc (d + 4)) sc 0 pm_c90 84 [(3, .inl 8), (2, .inl ((q901_78_1 v0 x w f).1)), (0, pm_r 67), (1, .inl 1)] [] (pm_u (q901_78_1 v0 x w f).2.1 (q901_78_1 v0 x w f).2.2 f) := (s901_78_1_0 d v0 x w f).trans (((s901_78_1_1 d v0 x w f).trans ((pm_call1_of (z881 (d + 3) 2 x w f (by decide))).trans (e901_78_2 d  v0 ((q881 2 x w f).1) ((q881 2 x w f).2) f))))
theorem s901_78_0 {sc : pm_Sc} (d : Nat) (v0 : Int32) (x : Nat → Nat → Int32) (w : Nat → Nat → Bool) (f : Nat → Nat → Nat) : pm_ev (pm_call pm_Tf sc (d + 4)) sc 0 pm_c90 78 [(3, .inl 0), (2, .inl v0), (0, pm_r 67), (1, .inl 1)] [] (pm_u x w f) = pm_ev (pm_call pm_Tf sc (d + 4)) sc 0 pm_c90 75 [(3, .inl 1), (2, .inl v0), (0, pm_r 67), (1, .inl 1)] [.inl 1, .inl 1, pm_r 67] (pm_u x w f) := by
  exact (pm_ev_iter [49, 61, 75, 84, 86] 3000 _ _ _ _).trans rfl
theorem s901_78_1 {sc : pm_Sc} (d : Nat) (v0 : Int32) (x : Nat → Nat → Int32) (w : Nat → Nat → Bool) (f : Nat → Nat → Nat) : pm_ev (pm_call pm_Tf sc (d + 4)) sc 0 pm_c90 75 [(3, .inl 1), (2, .inl v0), (0, pm_r 67), (1, .inl 1)] [.inl 1, .inl 1, pm_r 67] (pm_u x w f) = pm_call1 (fun v u => pm_ev (pm_call pm_Tf sc (d + 4)) sc 0 pm_c90 78 [(3, .inl 1), (2, .inl v0), (0, pm_r 67), (1, .inl 1)] (v.toList ++ []) u) none ((pm_call pm_Tf sc (d + 4)) 88 [pm_r 67, .inl 1, .inl 1] (pm_u x w f)) := by
  exact (pm_ev_step _ _ _ _).trans rfl
def q901_78 (v0 : Int32) (x : Nat → Nat → Int32) (w : Nat → Nat → Bool) (f : Nat → Nat → Nat) : Int32 × (Nat → Nat → Int32) × (Nat → Nat → Bool) := q901_78_1 v0 ((q881 1 x w f).1) ((q881 1 x w f).2) f
theorem e901_78 {sc : pm_Sc} (d : Nat) (v0 : Int32) (x : Nat → Nat → Int32) (w : Nat → Nat → Bool) (f : Nat → Nat → Nat) : pm_ev (pm_call pm_Tf sc (d + 4)) sc 0 pm_c90 78 [(3, .inl 0), (2, .inl v0), (0, pm_r 67), (1, .inl 1)] [] (pm_u x w f) = pm_ev (pm_call pm_Tf sc (d + 4)) sc 0 pm_c90 84 [(3, .inl 8), (2, .inl ((q901_78 v0 x w f).1)), (0, pm_r 67), (1, .inl 1)] [] (pm_u (q901_78 v0 x w f).2.1 (q901_78 v0 x w f).2.2 f) := (s901_78_0 d v0 x w f).trans (((s901_78_1 d v0 x w f).trans ((pm_call1_of (z881 (d + 3) 1 x w f (by decide))).trans (e901_78_1 d  v0 ((q881 1 x w f).1) ((q881 1 x w f).2) f))))
theorem s901_64_0 {sc : pm_Sc} (d : Nat) (v0 : Int32) (x : Nat → Nat → Int32) (w : Nat → Nat → Bool) (f : Nat → Nat → Nat) : pm_ev (pm_call pm_Tf sc (d + 4)) sc 0 pm_c90 64 [(2, .inl v0), (0, pm_r 67), (1, .inl 1)] [] (pm_u x w f) = pm_ev (pm_call pm_Tf sc (d + 4)) sc 0 pm_c90 75 [(3, .inl 0), (2, .inl v0), (0, pm_r 67), (1, .inl 1)] [.inl 0, .inl 1, pm_r 67] (pm_u x w f) := by
  exact (pm_ev_iter [49, 61, 75, 84, 86] 3000 _ _ _ _).trans rfl
theorem s901_64_1 {sc : pm_Sc} (d : Nat) (v0 : Int32) (x : Nat → Nat → Int32) (w : Nat → Nat → Bool) (f : Nat → Nat → Nat) : pm_ev (pm_call pm_Tf sc (d + 4)) sc 0 pm_c90 75 [(3, .inl 0), (2, .inl v0), (0, pm_r 67), (1, .inl 1)] [.inl 0, .inl 1, pm_r 67] (pm_u x w f) = pm_call1 (fun v u => pm_ev (pm_call pm_Tf sc (d + 4)) sc 0 pm_c90 78 [(3, .inl 0), (2, .inl v0), (0, pm_r 67), (1, .inl 1)] (v.toList ++ []) u) none ((pm_call pm_Tf sc (d + 4)) 88 [pm_r 67, .inl 1, .inl 0] (pm_u x w f)) := by
  exact (pm_ev_step _ _ _ _).trans rfl
def q901_64 (v0 : Int32) (x : Nat → Nat → Int32) (w : Nat → Nat → Bool) (f : Nat → Nat → Nat) : Int32 × (Nat → Nat → Int32) × (Nat → Nat → Bool) := q901_78 v0 ((q881 0 x w f).1) ((q881 0 x w f).2) f
theorem e901_64 {sc : pm_Sc} (d : Nat) (v0 : Int32) (x : Nat → Nat → Int32) (w : Nat → Nat → Bool) (f : Nat → Nat → Nat) : pm_ev (pm_call pm_Tf sc (d + 4)) sc 0 pm_c90 64 [(2, .inl v0), (0, pm_r 67), (1, .inl 1)] [] (pm_u x w f) = pm_ev (pm_call pm_Tf sc (d + 4)) sc 0 pm_c90 84 [(3, .inl 8), (2, .inl ((q901_64 v0 x w f).1)), (0, pm_r 67), (1, .inl 1)] [] (pm_u (q901_64 v0 x w f).2.1 (q901_64 v0 x w f).2.2 f) := (s901_64_0 d v0 x w f).trans (((s901_64_1 d v0 x w f).trans ((pm_call1_of (z881 (d + 3) 0 x w f (by decide))).trans (e901_78 d  v0 ((q881 0 x w f).1) ((q881 0 x w f).2) f))))
theorem s901_0 {sc : pm_Sc} (d : Nat)  (x : Nat → Nat → Int32) (w : Nat → Nat → Bool) (f : Nat → Nat → Nat) : pm_ev (pm_call pm_Tf sc (d + 4)) sc 0 pm_c90 0 [(0, pm_r 67), (1, .inl 1)] [] (pm_u x w f) = pm_ev (pm_call pm_Tf sc (d + 4)) sc 0 pm_c90 61 [(2, .inl (x 71 1)), (0, pm_r 67), (1, .inl 1)] [.inl 1, pm_r 67] (pm_u (pm_up x 68 1 ((x 68 1) + (1 : Int32))) w f) := by
  exact (pm_ev_iter [49, 61, 75, 84, 86] 3000 _ _ _ _).trans rfl
theorem s901_1 {sc : pm_Sc} (d : Nat)  (x : Nat → Nat → Int32) (w : Nat → Nat → Bool) (f : Nat → Nat → Nat) : pm_ev (pm_call pm_Tf sc (d + 4)) sc 0 pm_c90 61 [(2, .inl (x 71 1)), (0, pm_r 67), (1, .inl 1)] [.inl 1, pm_r 67] (pm_u (pm_up x 68 1 ((x 68 1) + (1 : Int32))) w f) = pm_call1 (fun v u => pm_ev (pm_call pm_Tf sc (d + 4)) sc 0 pm_c90 64 [(2, .inl (x 71 1)), (0, pm_r 67), (1, .inl 1)] (v.toList ++ []) u) none ((pm_call pm_Tf sc (d + 4)) 87 [pm_r 67, .inl 1] (pm_u (pm_up x 68 1 ((x 68 1) + (1 : Int32))) w f)) := by
  exact (pm_ev_step _ _ _ _).trans rfl
def q901 (x : Nat → Nat → Int32) (w : Nat → Nat → Bool) (f : Nat → Nat → Nat) : Int32 × (Nat → Nat → Int32) × (Nat → Nat → Bool) := q901_64 (x 71 1) ((q871 (pm_up x 68 1 ((x 68 1) + (1 : Int32))) w f).1) ((q871 (pm_up x 68 1 ((x 68 1) + (1 : Int32))) w f).2) f
theorem e901 {sc : pm_Sc} (d : Nat)  (x : Nat → Nat → Int32) (w : Nat → Nat → Bool) (f : Nat → Nat → Nat) : pm_ev (pm_call pm_Tf sc (d + 4)) sc 0 pm_c90 0 [(0, pm_r 67), (1, .inl 1)] [] (pm_u x w f) = pm_ev (pm_call pm_Tf sc (d + 4)) sc 0 pm_c90 84 [(3, .inl 8), (2, .inl ((q901 x w f).1)), (0, pm_r 67), (1, .inl 1)] [] (pm_u (q901 x w f).2.1 (q901 x w f).2.2 f) := (s901_0 d  x w f).trans (((s901_1 d  x w f).trans ((pm_call1_of (z871 (d + 1) (pm_up x 68 1 ((x 68 1) + (1 : Int32))) w f)).trans (e901_64 d  (x 71 1) ((q871 (pm_up x 68 1 ((x 68 1) + (1 : Int32))) w f).1) ((q871 (pm_up x 68 1 ((x 68 1) + (1 : Int32))) w f).2) f))))
end

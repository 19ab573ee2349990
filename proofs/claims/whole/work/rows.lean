section
-- ===== PART A: goes FIRST, ahead of the names: the tables' words, and 'selects' of the private methods out of them =====
/-- a private method of a class that the tables say can be made, by its rows of tables_1 -/
def lw_okq (q : MethodName × Nat) : Prop := (q.1.cls ≠ "java/lang/invoke/MethodHandle" ∧ q.1.cls ≠ "java/lang/invoke/VarHandle") ∧ Cond.instantiable q.1.cls q.2 ∈ tables_1 ∧ Cond.privateMethod q.1 ∈ tables_1 ∧ Cond.instanceMethod q.1 ∈ tables_1
theorem lw_p0 : lw_okq (⟨"PlatformDoors", "restart", "()V"⟩, 4) := ⟨⟨by decide +kernel, by decide +kernel⟩, List.mem_of_getElem? (i := 11) (by decide +kernel), List.mem_of_getElem? (i := 200) (by decide +kernel), List.mem_of_getElem? (i := 201) (by decide +kernel)⟩
theorem lw_p1 : lw_okq (⟨"PlatformDoors", "sideOf", "(I)LPlatformDoors$Side;"⟩, 4) := ⟨⟨by decide +kernel, by decide +kernel⟩, List.mem_of_getElem? (i := 11) (by decide +kernel), List.mem_of_getElem? (i := 253) (by decide +kernel), List.mem_of_getElem? (i := 254) (by decide +kernel)⟩
theorem lw_p2 : lw_okq (⟨"PlatformDoors$Train", "isReady", "()Z"⟩, 14) := ⟨⟨by decide +kernel, by decide +kernel⟩, List.mem_of_getElem? (i := 71) (by decide +kernel), List.mem_of_getElem? (i := 297) (by decide +kernel), List.mem_of_getElem? (i := 298) (by decide +kernel)⟩
theorem lw_p3 : lw_okq (⟨"PlatformDoors$Leaf", "move", "()V"⟩, 9) := ⟨⟨by decide +kernel, by decide +kernel⟩, List.mem_of_getElem? (i := 83) (by decide +kernel), List.mem_of_getElem? (i := 331) (by decide +kernel), List.mem_of_getElem? (i := 332) (by decide +kernel)⟩
theorem lw_p4 : lw_okq (⟨"PlatformDoors$Leaf", "feel", "()V"⟩, 9) := ⟨⟨by decide +kernel, by decide +kernel⟩, List.mem_of_getElem? (i := 83) (by decide +kernel), List.mem_of_getElem? (i := 338) (by decide +kernel), List.mem_of_getElem? (i := 339) (by decide +kernel)⟩
theorem lw_p5 : lw_okq (⟨"PlatformDoors", "watchTrain", "()V"⟩, 4) := ⟨⟨by decide +kernel, by decide +kernel⟩, List.mem_of_getElem? (i := 11) (by decide +kernel), List.mem_of_getElem? (i := 399) (by decide +kernel), List.mem_of_getElem? (i := 400) (by decide +kernel)⟩
theorem lw_p6 : lw_okq (⟨"PlatformDoors", "watchPlatform", "()V"⟩, 4) := ⟨⟨by decide +kernel, by decide +kernel⟩, List.mem_of_getElem? (i := 11) (by decide +kernel), List.mem_of_getElem? (i := 407) (by decide +kernel), List.mem_of_getElem? (i := 408) (by decide +kernel)⟩
theorem lw_p7 : lw_okq (⟨"PlatformDoors", "isUnderWay", "(II)Z"⟩, 4) := ⟨⟨by decide +kernel, by decide +kernel⟩, List.mem_of_getElem? (i := 11) (by decide +kernel), List.mem_of_getElem? (i := 449) (by decide +kernel), List.mem_of_getElem? (i := 450) (by decide +kernel)⟩
theorem lw_p8 : lw_okq (⟨"PlatformDoorsModel", "stepOne", "(I)V"⟩, 24) := ⟨⟨by decide +kernel, by decide +kernel⟩, List.mem_of_getElem? (i := 524) (by decide +kernel), List.mem_of_getElem? (i := 616) (by decide +kernel), List.mem_of_getElem? (i := 617) (by decide +kernel)⟩
theorem lw_p9 : lw_okq (⟨"PlatformDoorsModel", "changeState", "(I)V"⟩, 24) := ⟨⟨by decide +kernel, by decide +kernel⟩, List.mem_of_getElem? (i := 524) (by decide +kernel), List.mem_of_getElem? (i := 620) (by decide +kernel), List.mem_of_getElem? (i := 621) (by decide +kernel)⟩
theorem lw_p10 : lw_okq (⟨"PlatformDoorsModel", "mayOpen", "(I)Z"⟩, 24) := ⟨⟨by decide +kernel, by decide +kernel⟩, List.mem_of_getElem? (i := 524) (by decide +kernel), List.mem_of_getElem? (i := 624) (by decide +kernel), List.mem_of_getElem? (i := 625) (by decide +kernel)⟩
theorem lw_p11 : lw_okq (⟨"PlatformDoorsModel", "isFresh", "(I)Z"⟩, 24) := ⟨⟨by decide +kernel, by decide +kernel⟩, List.mem_of_getElem? (i := 524) (by decide +kernel), List.mem_of_getElem? (i := 628) (by decide +kernel), List.mem_of_getElem? (i := 629) (by decide +kernel)⟩
theorem lw_p12 : lw_okq (⟨"PlatformDoorsModel", "age", "(I)I"⟩, 24) := ⟨⟨by decide +kernel, by decide +kernel⟩, List.mem_of_getElem? (i := 524) (by decide +kernel), List.mem_of_getElem? (i := 632) (by decide +kernel), List.mem_of_getElem? (i := 633) (by decide +kernel)⟩
theorem lw_p13 : lw_okq (⟨"PlatformDoorsModel", "isReady", "()Z"⟩, 24) := ⟨⟨by decide +kernel, by decide +kernel⟩, List.mem_of_getElem? (i := 524) (by decide +kernel), List.mem_of_getElem? (i := 636) (by decide +kernel), List.mem_of_getElem? (i := 637) (by decide +kernel)⟩
theorem lw_p14 : lw_okq (⟨"PlatformDoorsModel", "mustClose", "(I)Z"⟩, 24) := ⟨⟨by decide +kernel, by decide +kernel⟩, List.mem_of_getElem? (i := 524) (by decide +kernel), List.mem_of_getElem? (i := 640) (by decide +kernel), List.mem_of_getElem? (i := 641) (by decide +kernel)⟩
theorem lw_p15 : lw_okq (⟨"PlatformDoorsModel", "isStale", "(I)Z"⟩, 24) := ⟨⟨by decide +kernel, by decide +kernel⟩, List.mem_of_getElem? (i := 524) (by decide +kernel), List.mem_of_getElem? (i := 644) (by decide +kernel), List.mem_of_getElem? (i := 645) (by decide +kernel)⟩
def lw_privs_1 : List (MethodName × Nat) := [(⟨"PlatformDoors", "restart", "()V"⟩, 4), (⟨"PlatformDoors", "sideOf", "(I)LPlatformDoors$Side;"⟩, 4), (⟨"PlatformDoors$Train", "isReady", "()Z"⟩, 14), (⟨"PlatformDoors$Leaf", "move", "()V"⟩, 9), (⟨"PlatformDoors$Leaf", "feel", "()V"⟩, 9), (⟨"PlatformDoors", "watchTrain", "()V"⟩, 4), (⟨"PlatformDoors", "watchPlatform", "()V"⟩, 4), (⟨"PlatformDoors", "isUnderWay", "(II)Z"⟩, 4), (⟨"PlatformDoorsModel", "stepOne", "(I)V"⟩, 24), (⟨"PlatformDoorsModel", "changeState", "(I)V"⟩, 24), (⟨"PlatformDoorsModel", "mayOpen", "(I)Z"⟩, 24), (⟨"PlatformDoorsModel", "isFresh", "(I)Z"⟩, 24), (⟨"PlatformDoorsModel", "age", "(I)I"⟩, 24), (⟨"PlatformDoorsModel", "isReady", "()Z"⟩, 24), (⟨"PlatformDoorsModel", "mustClose", "(I)Z"⟩, 24), (⟨"PlatformDoorsModel", "isStale", "(I)Z"⟩, 24)]
theorem lw_r1 : ∀ q ∈ lw_privs_1, lw_okq q := List.forall_mem_cons.mpr ⟨lw_p0, List.forall_mem_cons.mpr ⟨lw_p1, List.forall_mem_cons.mpr ⟨lw_p2, List.forall_mem_cons.mpr ⟨lw_p3, List.forall_mem_cons.mpr ⟨lw_p4, List.forall_mem_cons.mpr ⟨lw_p5, List.forall_mem_cons.mpr ⟨lw_p6, List.forall_mem_cons.mpr ⟨lw_p7, List.forall_mem_cons.mpr ⟨lw_p8, List.forall_mem_cons.mpr ⟨lw_p9, List.forall_mem_cons.mpr ⟨lw_p10, List.forall_mem_cons.mpr ⟨lw_p11, List.forall_mem_cons.mpr ⟨lw_p12, List.forall_mem_cons.mpr ⟨lw_p13, List.forall_mem_cons.mpr ⟨lw_p14, List.forall_mem_cons.mpr ⟨lw_p15, fun _ h => absurd h List.not_mem_nil⟩⟩⟩⟩⟩⟩⟩⟩⟩⟩⟩⟩⟩⟩⟩⟩
theorem lw_p16 : lw_okq (⟨"PlatformDoorsModel", "moveLeaf", "(II)V"⟩, 24) := ⟨⟨by decide +kernel, by decide +kernel⟩, List.mem_of_getElem? (i := 524) (by decide +kernel), List.mem_of_getElem? (i := 648) (by decide +kernel), List.mem_of_getElem? (i := 649) (by decide +kernel)⟩
theorem lw_p17 : lw_okq (⟨"PlatformDoorsModel", "isLocked", "(I)Z"⟩, 24) := ⟨⟨by decide +kernel, by decide +kernel⟩, List.mem_of_getElem? (i := 524) (by decide +kernel), List.mem_of_getElem? (i := 652) (by decide +kernel), List.mem_of_getElem? (i := 653) (by decide +kernel)⟩
theorem lw_p18 : lw_okq (⟨"PlatformDoorsModel", "send", "(I)V"⟩, 24) := ⟨⟨by decide +kernel, by decide +kernel⟩, List.mem_of_getElem? (i := 524) (by decide +kernel), List.mem_of_getElem? (i := 656) (by decide +kernel), List.mem_of_getElem? (i := 657) (by decide +kernel)⟩
theorem lw_p19 : lw_okq (⟨"PlatformDoorsModel", "isolatedBits", "(I)I"⟩, 24) := ⟨⟨by decide +kernel, by decide +kernel⟩, List.mem_of_getElem? (i := 524) (by decide +kernel), List.mem_of_getElem? (i := 660) (by decide +kernel), List.mem_of_getElem? (i := 661) (by decide +kernel)⟩
theorem lw_p20 : lw_okq (⟨"PlatformDoorsModel", "isGood", "(I)Z"⟩, 24) := ⟨⟨by decide +kernel, by decide +kernel⟩, List.mem_of_getElem? (i := 524) (by decide +kernel), List.mem_of_getElem? (i := 664) (by decide +kernel), List.mem_of_getElem? (i := 665) (by decide +kernel)⟩
theorem lw_p21 : lw_okq (⟨"PlatformDoorsModel", "toldLeaves", "(I)I"⟩, 24) := ⟨⟨by decide +kernel, by decide +kernel⟩, List.mem_of_getElem? (i := 524) (by decide +kernel), List.mem_of_getElem? (i := 668) (by decide +kernel), List.mem_of_getElem? (i := 669) (by decide +kernel)⟩
theorem lw_p22 : lw_okq (⟨"PlatformDoorsModel", "isTold", "(I)Z"⟩, 24) := ⟨⟨by decide +kernel, by decide +kernel⟩, List.mem_of_getElem? (i := 524) (by decide +kernel), List.mem_of_getElem? (i := 672) (by decide +kernel), List.mem_of_getElem? (i := 673) (by decide +kernel)⟩
theorem lw_p23 : lw_okq (⟨"PlatformDoorsModel", "says", "(IZ)Z"⟩, 24) := ⟨⟨by decide +kernel, by decide +kernel⟩, List.mem_of_getElem? (i := 524) (by decide +kernel), List.mem_of_getElem? (i := 676) (by decide +kernel), List.mem_of_getElem? (i := 677) (by decide +kernel)⟩
theorem lw_p24 : lw_okq (⟨"PlatformDoorsModel", "noFrame", "(II)Z"⟩, 24) := ⟨⟨by decide +kernel, by decide +kernel⟩, List.mem_of_getElem? (i := 524) (by decide +kernel), List.mem_of_getElem? (i := 717) (by decide +kernel), List.mem_of_getElem? (i := 718) (by decide +kernel)⟩
theorem lw_p25 : lw_okq (⟨"PlatformDoorsModel", "takeOut", "(II)V"⟩, 24) := ⟨⟨by decide +kernel, by decide +kernel⟩, List.mem_of_getElem? (i := 524) (by decide +kernel), List.mem_of_getElem? (i := 721) (by decide +kernel), List.mem_of_getElem? (i := 722) (by decide +kernel)⟩
def lw_privs_2 : List (MethodName × Nat) := [(⟨"PlatformDoorsModel", "moveLeaf", "(II)V"⟩, 24), (⟨"PlatformDoorsModel", "isLocked", "(I)Z"⟩, 24), (⟨"PlatformDoorsModel", "send", "(I)V"⟩, 24), (⟨"PlatformDoorsModel", "isolatedBits", "(I)I"⟩, 24), (⟨"PlatformDoorsModel", "isGood", "(I)Z"⟩, 24), (⟨"PlatformDoorsModel", "toldLeaves", "(I)I"⟩, 24), (⟨"PlatformDoorsModel", "isTold", "(I)Z"⟩, 24), (⟨"PlatformDoorsModel", "says", "(IZ)Z"⟩, 24), (⟨"PlatformDoorsModel", "noFrame", "(II)Z"⟩, 24), (⟨"PlatformDoorsModel", "takeOut", "(II)V"⟩, 24)]
theorem lw_r2 : ∀ q ∈ lw_privs_2, lw_okq q := List.forall_mem_cons.mpr ⟨lw_p16, List.forall_mem_cons.mpr ⟨lw_p17, List.forall_mem_cons.mpr ⟨lw_p18, List.forall_mem_cons.mpr ⟨lw_p19, List.forall_mem_cons.mpr ⟨lw_p20, List.forall_mem_cons.mpr ⟨lw_p21, List.forall_mem_cons.mpr ⟨lw_p22, List.forall_mem_cons.mpr ⟨lw_p23, List.forall_mem_cons.mpr ⟨lw_p24, List.forall_mem_cons.mpr ⟨lw_p25, fun _ h => absurd h List.not_mem_nil⟩⟩⟩⟩⟩⟩⟩⟩⟩⟩
def lw_privs : List (MethodName × Nat) := lw_privs_1 ++ (lw_privs_2)
def lw_tbl : List Cond := k2_sels lw_privs ++ tables_1
theorem lw_privs_ok : ∀ q ∈ lw_privs, lw_okq q := by
  show ∀ q ∈ lw_privs_1 ++ (lw_privs_2), lw_okq q
  exact List.forall_mem_append.mpr ⟨lw_r1, lw_r2⟩
end
section
/-! Private methods of the type above Train and Platform, on receivers of these two: the words by which a call selects them follow from others. -/
theorem pm_sel {C : String} {x0 y0 y : MethodName} {s : State} {args : Array Value} (h0 : (Cond.selects C x0 y0).before args s = true) (hc : y0.cls = y.cls) (hy : y.cls ≠ "java/lang/invoke/MethodHandle" ∧ y.cls ≠ "java/lang/invoke/VarHandle") (hp : (Cond.privateMethod y).before args s = true) (hi : (Cond.instanceMethod y).before args s = true) : (Cond.selects C y y).before args s = true := by
  obtain ⟨mk, me, hn, hm, -, -⟩ := Cond.instanceMethod_spec hi
  obtain ⟨cc, rr, mm, e1, -, e3, -, kk, e5, e6⟩ := Cond.selects_spec h0
  have hf := State.methodFound?_of_named hn hy
  have hs : selectMethod {} s.vm cc mk = .method mk := selectMethod_private hm (Cond.privateMethod_at hp mk me hn hm)
  have hmc : mk.cls = mm.cls := by
    have h1 := findClass_of_methodNamed hn
    have h2 := findClass_of_methodNamed e3
    rw [hc, h1] at h2
    exact Option.some.inj h2
  simp only [Cond.before, Cond.holds, Cond.value, e1, hf, hn, hs, hmc, e5]
  simp
  exact e6
def pm_pv : List MethodName := [⟨"PlatformDoors$Side", "changeState", "()V"⟩, ⟨"PlatformDoors$Side", "send", "()V"⟩, ⟨"PlatformDoors$Side", "isolatedBits", "()I"⟩]
def pm_w2 : List Cond := pm_pv.map (fun y => Cond.selects "PlatformDoors$Train" y y) ++ pm_pv.map (fun y => Cond.selects "PlatformDoors$Platform" y y)
def pm_tb : List Cond := pm_w2 ++ lw_tbl
def pm_sadv : MethodName := ⟨"PlatformDoors$Side", "advance", "()V"⟩
theorem pm_pv_ok : ∀ y ∈ pm_pv, y.cls = "PlatformDoors$Side" ∧ Cond.privateMethod y ∈ lw_tbl ∧ Cond.instanceMethod y ∈ lw_tbl := by decide +kernel
theorem pm_sadv_ok : Cond.selects "PlatformDoors$Train" pm_sadv pm_sadv ∈ lw_tbl ∧ Cond.selects "PlatformDoors$Platform" pm_sadv pm_sadv ∈ lw_tbl := by decide +kernel
theorem pm_tb_of {s : State} {args : Array Value} (h : ∀ w ∈ lw_tbl, w.before args s = true) : ∀ w ∈ pm_tb, w.before args s = true := by
  intro w hw
  rcases List.mem_append.mp hw with hw | hw
  · rcases List.mem_append.mp hw with hw | hw
    · obtain ⟨y, hy, rfl⟩ := List.mem_map.mp hw
      obtain ⟨h1, h2, h3⟩ := pm_pv_ok y hy
      exact pm_sel (h _ pm_sadv_ok.1) h1.symm (by rw [h1]; exact ⟨by decide, by decide⟩) (h _ h2) (h _ h3)
    · obtain ⟨y, hy, rfl⟩ := List.mem_map.mp hw
      obtain ⟨h1, h2, h3⟩ := pm_pv_ok y hy
      exact pm_sel (h _ pm_sadv_ok.2) h1.symm (by rw [h1]; exact ⟨by decide, by decide⟩) (h _ h2) (h _ h3)
  · exact h w hw
end
section
/-! A small machine of my own over PLACES (see NOTES.md, section H): ints, booleans and references in a memory of places; one step in the style of continuations, so that a branch on a number that isn't known stands outside. Nothing here speaks of the model; part 12 shows that what this machine does, the model does. -/
abbrev pm_V : Type := Int32 ⊕ (Bool ⊕ (Option Nat ⊕ Unit))
abbrev pm_S : Type := Nat × (Nat → Nat → Int32) × (Nat → Nat → Bool) × (Nat → Nat → Option Nat)
abbrev pm_Rs : Type := Option pm_V × pm_S
abbrev pm_Lv : Type := List (Nat × pm_V)
abbrev pm_Row : Type := Nat × Jvm.ClassFile.Instr × Nat × List Nat
abbrev pm_Cd : Type := List (List pm_Row)
abbrev pm_Kd : Type := Nat ⊕ (Nat × Nat)
abbrev pm_Sc : Type := Nat × (Nat → Int32)
def pm_up {α : Type} (x : Nat → Nat → α) (k j : Nat) (v : α) : Nat → Nat → α := fun a b => bif Nat.beq a k && Nat.beq b j then v else x a b
def pm_fz {α : Type} (x : Nat → Nat → α) (k : Nat) (v : α) : Nat → Nat → α := fun a b => bif Nat.beq a k then v else x a b
def pm_lget : pm_Lv → Nat → Option pm_V
  | [], _ => none
  | (k, v) :: t, i => bif Nat.beq k i then some v else pm_lget t i
def pm_ldel : pm_Lv → Nat → pm_Lv
  | [], _ => []
  | (k, v) :: t, i => bif Nat.beq k i then pm_ldel t i else (k, v) :: pm_ldel t i
def pm_lset (lv : pm_Lv) (i : Nat) (v : pm_V) : pm_Lv := (i, v) :: pm_ldel lv i
def pm_look : List pm_Row → Nat → Option (Jvm.ClassFile.Instr × Nat × List Nat)
  | [], _ => none
  | (k, a) :: t, n => bif Nat.beq k n then some a else pm_look t n
def pm_find (cd : pm_Cd) (pc : Nat) : Option (Jvm.ClassFile.Instr × Nat × List Nat) := pm_look (cd.getD (pc / 16) []) pc
/-- what each place is: an object's kind by number, or a kind of array (0 int, 1 boolean, 2 Frame, 3 Leaf) and its length; in the order of making -/
def pm_kds : List (List pm_Kd) := [
  [.inl 0, .inl 3, .inr (2, 12), .inl 1, .inl 1, .inl 1, .inl 1, .inl 1],
  [.inl 1, .inl 1, .inl 1, .inl 1, .inl 1, .inl 1, .inl 1, .inl 3],
  [.inr (2, 12), .inl 1, .inl 1, .inl 1, .inl 1, .inl 1, .inl 1, .inl 1],
  [.inl 1, .inl 1, .inl 1, .inl 1, .inl 1, .inl 5, .inr (3, 8), .inl 1],
  [.inl 2, .inr (0, 2), .inl 2, .inr (0, 2), .inl 2, .inr (0, 2), .inl 2, .inr (0, 2)],
  [.inl 2, .inr (0, 2), .inl 2, .inr (0, 2), .inl 2, .inr (0, 2), .inl 2, .inr (0, 2)],
  [.inl 4, .inr (3, 8), .inl 1, .inl 2, .inr (0, 2), .inl 2, .inr (0, 2), .inl 2],
  [.inr (0, 2), .inl 2, .inr (0, 2), .inl 2, .inr (0, 2), .inl 2, .inr (0, 2), .inl 2],
  [.inr (0, 2), .inl 2, .inr (0, 2), .inl 6, .inr (0, 2), .inr (0, 2), .inr (0, 2), .inr (0, 2)],
  [.inr (1, 2), .inr (0, 12), .inr (0, 2), .inr (0, 144), .inr (0, 16), .inr (1, 16), .inr (1, 16), .inr (1, 16)],
  [.inr (1, 16), .inr (0, 16), .inr (0, 16), .inr (0, 16), .inr (0, 32)]]
def pm_kd (k : Nat) : Option pm_Kd := (pm_kds.getD (k / 8) [])[k % 8]?
/-- is i an index below len? -/
def pm_ib (i : Int32) (len : Nat) : Bool := !(decide (i < 0)) && Nat.blt i.toNatClampNeg len
/-- a switch from the case v on -/
def pm_sw {α : Type} (x : Int32) (kg : Nat → α) (dflt : Nat) : List Nat → Nat → α
  | [], _ => kg dflt
  | t :: ts, v => if x = Int32.ofNat v then kg t else pm_sw x kg dflt ts (v + 1)
def pm_pair : List Nat → Nat → Option Nat
  | a :: b :: t, i => bif Nat.beq a i then some b else pm_pair t i
  | _, _ => none
def pm_con : List Nat → Int32
  | [m, 0] => Int32.ofNat m
  | [m, _] => - Int32.ofNat m
  | _ => 0
section PMD
variable {α : Type} (c : Nat → List pm_V → pm_S → Option pm_Rs) (sc : pm_Sc) (rk : Nat)
def pm_br (cd : Jvm.ClassFile.Cond) (x : Int32) (a b : α) : α := match cd with
  | .eq => if x = 0 then a else b
  | .ne => if x = 0 then b else a
  | .lt => if x < 0 then a else b
  | .ge => if 0 ≤ x then a else b
  | .gt => if 0 < x then a else b
  | .le => if x ≤ 0 then a else b
def pm_br2 (cd : Jvm.ClassFile.Cond) (x y : Int32) (a b : α) : α := match cd with
  | .eq => if x = y then a else b
  | .ne => if x = y then b else a
  | .lt => if x < y then a else b
  | .ge => if y ≤ x then a else b
  | .gt => if y < x then a else b
  | .le => if x ≤ y then a else b
def pm_brb (cd : Jvm.ClassFile.Cond) (x : Bool) (a b kn : α) : α := match cd with
  | .eq => if x = true then b else a
  | .ne => if x = true then a else b
  | _ => kn
def pm_brb2 (cd : Jvm.ClassFile.Cond) (x y : Bool) (a b kn : α) : α := match cd with
  | .eq => if x = y then a else b
  | .ne => if x = y then b else a
  | _ => kn
/-- the kind of the object at a place that has been made -/
def pm_cls (n k : Nat) : Option Nat := bif Nat.blt k n then (match pm_kd k with | some (.inl ci) => some ci | _ => none) else none
/-- the kind of the array at a place that has been made -/
def pm_arr (n k : Nat) : Option (Nat × Nat) := bif Nat.blt k n then (match pm_kd k with | some (.inr a) => some a | _ => none) else none
def pm_call1 (kg : Option pm_V → pm_S → α) (kn : α) (r : Option pm_Rs) : α := match r with
  | some (v, u) => kg v u
  | none => kn
def pm_get (ty k j : Nat) (u : pm_S) : pm_V := match ty with
  | 0 => .inl (u.2.1 k j)
  | 1 => .inr (.inl (u.2.2.1 k j))
  | _ => .inr (.inr (.inl (u.2.2.2 k j)))
/-- a value into slot j of place k -/
def pm_put (ty k j : Nat) (v : pm_V) (u : pm_S) (kg : pm_S → α) (kn : α) : α := match ty, v with
  | 0, .inl x => kg (u.1, pm_up u.2.1 k j x, u.2.2.1, u.2.2.2)
  | 1, .inr (.inl b) => kg (u.1, u.2.1, pm_up u.2.2.1 k j b, u.2.2.2)
  | 1, .inl x => if x = 0 then kg (u.1, u.2.1, pm_up u.2.2.1 k j false, u.2.2.2) else if x = 1 then kg (u.1, u.2.1, pm_up u.2.2.1 k j true, u.2.2.2) else kn
  | 2, .inr (.inr (.inl (some q))) => kg (u.1, u.2.1, u.2.2.1, pm_up u.2.2.2 k j (some q))
  | _, _ => kn
def pm_iret (st : List pm_V) (u : pm_S) (kr : pm_Rs → α) (kn : α) : α := match rk, st with
  | 1, [.inl x] => kr (some (.inl x), u)
  | 2, [.inr (.inl b)] => kr (some (.inr (.inl b)), u)
  | 2, [.inl x] => if x = 0 then kr (some (.inr (.inl false)), u) else if x = 1 then kr (some (.inr (.inl true)), u) else kn
  | _, _ => kn
def pm_ld (v : Option pm_V) (kg : pm_V → α) (kn : α) : α := match v with
  | some (.inl x) => kg (.inl x)
  | some (.inr (.inl b)) => kg (.inr (.inl b))
  | _ => kn
def pm_la (v : Option pm_V) (kg : pm_V → α) (kn : α) : α := match v with
  | some (.inr (.inr q)) => kg (.inr (.inr q))
  | _ => kn
def pm_si (st : List pm_V) (kg : pm_V → List pm_V → α) (kn : α) : α := match st with
  | .inl x :: st => kg (.inl x) st
  | .inr (.inl b) :: st => kg (.inr (.inl b)) st
  | _ => kn
def pm_sa (st : List pm_V) (kg : pm_V → List pm_V → α) (kn : α) : α := match st with
  | .inr (.inr q) :: st => kg (.inr (.inr q)) st
  | _ => kn
def pm_op2 (st : List pm_V) (kg : Int32 → Int32 → List pm_V → α) (kn : α) : α := match st with
  | .inl y :: .inl x :: st => kg x y st
  | _ => kn
def pm_obj (n : Nat) (st : List pm_V) (kg : Nat → Nat → List pm_V → α) (kn : α) : α := match st with
  | .inr (.inr (.inl (some k))) :: st => (match pm_cls n k with | some ci => kg k ci st | none => kn)
  | _ => kn
/-- reads and writes of arrays: kind t0 -/
def pm_ald (t0 : Nat) (st : List pm_V) (u : pm_S) (kg : pm_V → List pm_V → α) (kn : α) : α := match st with
  | .inl i :: .inr (.inr (.inl (some k))) :: st => (match pm_arr u.1 k with
    | some (t, len) => bif (Nat.beq t t0 || (Nat.beq t0 2 && Nat.beq t 3)) && pm_ib i len then kg (pm_get t0 k i.toNatClampNeg u) st else kn
    | none => kn)
  | .inl i :: .inr (.inr (.inr _)) :: st => bif Nat.beq t0 0 && pm_ib i sc.1 then kg (.inl (sc.2 i.toNatClampNeg)) st else kn
  | _ => kn
def pm_ast (t0 : Nat) (st : List pm_V) (u : pm_S) (kg : List pm_V → pm_S → α) (kn : α) : α := match st with
  | v :: .inl i :: .inr (.inr (.inl (some k))) :: st => (match pm_arr u.1 k with
    | some (t, len) => bif Nat.beq t t0 && pm_ib i len then pm_put t0 k i.toNatClampNeg v u (fun u => kg st u) kn else kn
    | none => kn)
  | _ => kn
def pm_asta (st : List pm_V) (u : pm_S) (kg : List pm_V → pm_S → α) (kn : α) : α := match st with
  | .inr (.inr (.inl (some q))) :: .inl i :: .inr (.inr (.inl (some k))) :: st => (match pm_arr u.1 k, pm_cls u.1 q with
    | some (t, len), some ci => bif ((Nat.beq t 2 && Nat.beq ci 1) || (Nat.beq t 3 && Nat.beq ci 2)) && pm_ib i len then kg st (u.1, u.2.1, u.2.2.1, pm_up u.2.2.2 k i.toNatClampNeg (some q)) else kn
    | _, _ => kn)
  | _ => kn
/-- a new place n, all zero -/
def pm_made (u : pm_S) : pm_S := (u.1 + 1, pm_fz u.2.1 u.1 0, pm_fz u.2.2.1 u.1 false, pm_fz u.2.2.2 u.1 none)
def pm_new (d : pm_Kd) (st : List pm_V) (u : pm_S) (kg : List pm_V → pm_S → α) (kn : α) : α := match pm_kd u.1, d with
  | some (.inl a), .inl b => bif Nat.beq a b then kg (.inr (.inr (.inl (some u.1))) :: st) (pm_made u) else kn
  | some (.inr (a, x)), .inr (b, y) => bif Nat.beq a b && Nat.beq x y then kg (.inr (.inr (.inl (some u.1))) :: st) (pm_made u) else kn
  | _, _ => kn
/-- below a call's arguments the stack is short -/
def pm_gd (st : List pm_V) (a kn : α) : α := bif Nat.ble st.length 8 then a else kn
/-- the arguments off the stack: the last is on top -/
def pm_pop : Nat → List pm_V → List pm_V → Option (List pm_V × List pm_V)
  | 0, as, st => some (as, st)
  | n + 1, as, v :: st => pm_pop n (v :: as) st
  | _ + 1, _, [] => none
def pm_do (ins : Jvm.ClassFile.Instr) (nx : Nat) (ax : List Nat) (lv : pm_Lv) (st : List pm_V) (u : pm_S) (kg : Nat → pm_Lv → List pm_V → pm_S → α) (kr : pm_Rs → α) (kn : α) : α := match ins with
  | .iconst n => kg nx lv (.inl (Int32.ofInt n) :: st) u
  | .bipush n => kg nx lv (.inl (Int32.ofInt n) :: st) u
  | .sipush n => kg nx lv (.inl (Int32.ofInt n) :: st) u
  | .ldc _ => kg nx lv (.inl (pm_con ax) :: st) u
  | .iload_n k => pm_ld (pm_lget lv k.val) (fun v => kg nx lv (v :: st) u) kn
  | .iload i => pm_ld (pm_lget lv i) (fun v => kg nx lv (v :: st) u) kn
  | .aload_n k => pm_la (pm_lget lv k.val) (fun v => kg nx lv (v :: st) u) kn
  | .aload i => pm_la (pm_lget lv i) (fun v => kg nx lv (v :: st) u) kn
  | .istore_n k => pm_si st (fun v st => kg nx (pm_lset lv k.val v) st u) kn
  | .istore i => pm_si st (fun v st => kg nx (pm_lset lv i v) st u) kn
  | .astore_n k => pm_sa st (fun v st => kg nx (pm_lset lv k.val v) st u) kn
  | .astore i => pm_sa st (fun v st => kg nx (pm_lset lv i v) st u) kn
  | .iinc i n => (match pm_lget lv i with | some (.inl x) => kg nx (pm_lset lv i (.inl (x + Int32.ofInt n))) st u | _ => kn)
  | .iadd => pm_op2 st (fun x y st => kg nx lv (.inl (x + y) :: st) u) kn
  | .isub => pm_op2 st (fun x y st => kg nx lv (.inl (x - y) :: st) u) kn
  | .imul => pm_op2 st (fun x y st => kg nx lv (.inl (x * y) :: st) u) kn
  | .iand => pm_op2 st (fun x y st => kg nx lv (.inl (x &&& y) :: st) u) kn
  | .ior => pm_op2 st (fun x y st => kg nx lv (.inl (x ||| y) :: st) u) kn
  | .ishl => pm_op2 st (fun x y st => kg nx lv (.inl (x <<< (y &&& 31)) :: st) u) kn
  | .ishr => pm_op2 st (fun x y st => kg nx lv (.inl (x >>> (y &&& 31)) :: st) u) kn
  | .idiv => pm_op2 st (fun x y st => if y = 0 then kn else kg nx lv (.inl (x / y) :: st) u) kn
  | .irem => pm_op2 st (fun x y st => if y = 0 then kn else kg nx lv (.inl (x - x / y * y) :: st) u) kn
  | .dup => (match st with | v :: st => kg nx lv (v :: v :: st) u | _ => kn)
  | .dup2 => (match st with | v :: w :: st => kg nx lv (v :: w :: v :: w :: st) u | _ => kn)
  | .ifCond cd _ => (match st with | .inl x :: st => pm_br cd x (kg (ax.headD 0) lv st u) (kg nx lv st u) | .inr (.inl b) :: st => pm_brb cd b (kg (ax.headD 0) lv st u) (kg nx lv st u) kn | _ => kn)
  | .if_icmp cd _ => (match st with | .inl y :: .inl x :: st => pm_br2 cd x y (kg (ax.headD 0) lv st u) (kg nx lv st u) | .inr (.inl y) :: .inr (.inl x) :: st => pm_brb2 cd x y (kg (ax.headD 0) lv st u) (kg nx lv st u) kn | _ => kn)
  | .goto _ => kg (ax.headD 0) lv st u
  | .getfield _ => (match ax with | j :: ty :: cis => pm_obj u.1 st (fun k ci st => bif cis.any (Nat.beq ci) then kg nx lv (pm_get ty k j u :: st) u else kn) kn | _ => kn)
  | .putfield _ => (match ax, st with | j :: ty :: _ :: cis, v :: st => pm_obj u.1 st (fun k ci st => bif cis.any (Nat.beq ci) then pm_put ty k j v u (fun u => kg nx lv st u) kn else kn) kn | _, _ => kn)
  | .iaload => pm_ald sc 0 st u (fun v st => kg nx lv (v :: st) u) kn
  | .baload => pm_ald sc 1 st u (fun v st => kg nx lv (v :: st) u) kn
  | .aaload => pm_ald sc 2 st u (fun v st => kg nx lv (v :: st) u) kn
  | .iastore => pm_ast 0 st u (fun st u => kg nx lv st u) kn
  | .bastore => pm_ast 1 st u (fun st u => kg nx lv st u) kn
  | .aastore => pm_asta st u (fun st u => kg nx lv st u) kn
  | .arraylength => (match st with | .inr (.inr (.inr _)) :: st => kg nx lv (.inl (Int32.ofNat sc.1) :: st) u | _ => kn)
  | .new _ => (match ax with | ci :: _ => pm_new (.inl ci) st u (fun st u => kg nx lv st u) kn | _ => kn)
  | .newarray a => (match ax, st with | [t], .inl i :: st => bif !(decide (i < 0)) then pm_new (.inr (t, i.toNatClampNeg)) st u (fun st u => kg nx lv st u) kn else kn | _, _ => kn)
  | .anewarray _ => (match ax, st with | [t], .inl i :: st => bif !(decide (i < 0)) then pm_new (.inr (t, i.toNatClampNeg)) st u (fun st u => kg nx lv st u) kn else kn | _, _ => kn)
  | .invokevirtual _ => (match ax with
    | na :: _ :: ps => (match pm_pop na [] st with
      | some (as, st) => pm_obj u.1 st (fun k ci st => match pm_pair ps ci with
        | some mi => pm_gd st (pm_call1 (fun v u => kg nx lv (v.toList ++ st) u) kn (c mi (.inr (.inr (.inl (some k))) :: as) u)) kn
        | none => kn) kn
      | none => kn)
    | _ => kn)
  | .invokespecial _ => (match ax with
    | [] => (match st with | .inr (.inr (.inl (some _))) :: st => pm_gd st (kg nx lv st u) kn | _ => kn)
    | na :: mi :: _ => (match pm_pop na [] st with
      | some (as, .inr (.inr (.inl (some k))) :: st) => pm_gd st (pm_call1 (fun v u => kg nx lv (v.toList ++ st) u) kn (c mi (.inr (.inr (.inl (some k))) :: as) u)) kn
      | _ => kn)
    | _ => kn)
  | .invokestatic _ => (match ax with
    | [0] => pm_op2 st (fun x y st => pm_gd st (kg nx lv (.inl (if x < y then y else x) :: st) u) kn) kn
    | [1] => pm_op2 st (fun x y st => pm_gd st (kg nx lv (.inl (if y < x then y else x) :: st) u) kn) kn
    | na :: mi :: _ => (match pm_pop na [] st with
      | some (as, st) => pm_gd st (pm_call1 (fun v u => kg nx lv (v.toList ++ st) u) kn (c mi as u)) kn
      | none => kn)
    | _ => kn)
  | .tableswitch _ _ _ _ => (match ax, st with | d :: ts, .inl x :: st => pm_sw x (fun pc => kg pc lv st u) d ts 0 | _, _ => kn)
  | .ireturn => pm_iret rk st u kr kn
  | .areturn => (match rk, st with | 3, [.inr (.inr (.inl q))] => kr (some (.inr (.inr (.inl q))), u) | _, _ => kn)
  | .return_ => (match rk, st with | 0, [] => kr (none, u) | _, _ => kn)
  | _ => kn
def pm_stp (cd : pm_Cd) (pc : Nat) (lv : pm_Lv) (st : List pm_V) (u : pm_S) (kg : Nat → pm_Lv → List pm_V → pm_S → α) (kr : pm_Rs → α) (kn : α) : α := match pm_find cd pc with
  | some (ins, nx, ax) => pm_do c sc rk ins nx ax lv st u kg kr kn
  | none => kn
/-- up to k steps, stopping at pcs that 'cut' names -/
def pm_iter (cd : pm_Cd) (cut : List Nat) : Nat → Nat → pm_Lv → List pm_V → pm_S → (Nat → pm_Lv → List pm_V → pm_S → α) → (pm_Rs → α) → α → α
  | 0, pc, lv, st, u, kg, _, _ => kg pc lv st u
  | k + 1, pc, lv, st, u, kg, kr, kn => pm_stp c sc rk cd pc lv st u (fun pc lv st u => bif cut.any (Nat.beq pc) then kg pc lv st u else pm_iter cd cut k pc lv st u kg kr kn) kr kn
end PMD
abbrev pm_St : Type := Nat × pm_Lv × List pm_V × pm_S
end
section
section PMR
variable {α β : Type} {R : α → β → Prop}
theorem pm_ite_rel {p : Prop} {hd : Decidable p} {a b : α} {a' b' : β} (ha : R a a') (hb : R b b') : R (@ite α p hd a b) (@ite β p hd a' b') := by
  by_cases h : p
  · rw [if_pos h, if_pos h]; exact ha
  · rw [if_neg h, if_neg h]; exact hb
theorem pm_bif_rel {x : Bool} {a b : α} {a' b' : β} (ha : R a a') (hb : R b b') : R (bif x then a else b) (bif x then a' else b') := by
  cases x
  · exact hb
  · exact ha
theorem pm_br_rel {cd : Jvm.ClassFile.Cond} {x : Int32} {a b : α} {a' b' : β} (ha : R a a') (hb : R b b') : R (pm_br cd x a b) (pm_br cd x a' b') := by
  cases cd <;> first | exact pm_ite_rel ha hb | exact pm_ite_rel hb ha
theorem pm_br2_rel {cd : Jvm.ClassFile.Cond} {x y : Int32} {a b : α} {a' b' : β} (ha : R a a') (hb : R b b') : R (pm_br2 cd x y a b) (pm_br2 cd x y a' b') := by
  cases cd <;> first | exact pm_ite_rel ha hb | exact pm_ite_rel hb ha
theorem pm_brb_rel {cd : Jvm.ClassFile.Cond} {x : Bool} {a b d : α} {a' b' d' : β} (ha : R a a') (hb : R b b') (hn : R d d') : R (pm_brb cd x a b d) (pm_brb cd x a' b' d') := by
  cases cd <;> first | exact pm_ite_rel ha hb | exact pm_ite_rel hb ha | exact hn
theorem pm_brb2_rel {cd : Jvm.ClassFile.Cond} {x y : Bool} {a b d : α} {a' b' d' : β} (ha : R a a') (hb : R b b') (hn : R d d') : R (pm_brb2 cd x y a b d) (pm_brb2 cd x y a' b' d') := by
  cases cd <;> first | exact pm_ite_rel ha hb | exact pm_ite_rel hb ha | exact hn
theorem pm_sw_rel {x : Int32} {kg : Nat → α} {kg' : Nat → β} (h : ∀ pc, R (kg pc) (kg' pc)) (d : Nat) : ∀ (ts : List Nat) (v : Nat), R (pm_sw x kg d ts v) (pm_sw x kg' d ts v)
  | [], _ => h d
  | t :: ts, v => pm_ite_rel (h t) (pm_sw_rel h d ts (v + 1))
theorem pm_call1_rel {kg : Option pm_V → pm_S → α} {kg' : Option pm_V → pm_S → β} {kn : α} {kn' : β} {r : Option pm_Rs} (h : ∀ v u, R (kg v u) (kg' v u)) (hn : R kn kn') : R (pm_call1 kg kn r) (pm_call1 kg' kn' r) := by
  rcases r with _ | ⟨v, u⟩
  · exact hn
  · exact h v u
theorem pm_put_rel {ty k j : Nat} {v : pm_V} {u : pm_S} {kg : pm_S → α} {kg' : pm_S → β} {kn : α} {kn' : β} (h : ∀ u, R (kg u) (kg' u)) (hn : R kn kn') : R (pm_put ty k j v u kg kn) (pm_put ty k j v u kg' kn') := by
  rcases ty with _ | _ | _ | ty <;> rcases v with x | b | (_ | q) | _ <;> first | exact hn | exact h _ | exact pm_ite_rel (h _) (pm_ite_rel (h _) hn)
theorem pm_iret_rel {rk : Nat} {st : List pm_V} {u : pm_S} {kr : pm_Rs → α} {kr' : pm_Rs → β} {kn : α} {kn' : β} (h : ∀ r, R (kr r) (kr' r)) (hn : R kn kn') : R (pm_iret rk st u kr kn) (pm_iret rk st u kr' kn') := by
  rcases rk with _ | _ | _ | rk <;> rcases st with _ | ⟨x | b | (_ | q) | _, _ | ⟨v2, st⟩⟩ <;> first | exact hn | exact h _ | exact pm_ite_rel (h _) (pm_ite_rel (h _) hn)
theorem pm_ld_rel {v : Option pm_V} {kg : pm_V → α} {kg' : pm_V → β} {kn : α} {kn' : β} (h : ∀ v, R (kg v) (kg' v)) (hn : R kn kn') : R (pm_ld v kg kn) (pm_ld v kg' kn') := by
  rcases v with _ | x | b | q <;> first | exact hn | exact h _
theorem pm_la_rel {v : Option pm_V} {kg : pm_V → α} {kg' : pm_V → β} {kn : α} {kn' : β} (h : ∀ v, R (kg v) (kg' v)) (hn : R kn kn') : R (pm_la v kg kn) (pm_la v kg' kn') := by
  rcases v with _ | x | b | q <;> first | exact hn | exact h _
theorem pm_si_rel {st : List pm_V} {kg : pm_V → List pm_V → α} {kg' : pm_V → List pm_V → β} {kn : α} {kn' : β} (h : ∀ v st, R (kg v st) (kg' v st)) (hn : R kn kn') : R (pm_si st kg kn) (pm_si st kg' kn') := by
  rcases st with _ | ⟨x | b | q, st⟩ <;> first | exact hn | exact h _ _
theorem pm_sa_rel {st : List pm_V} {kg : pm_V → List pm_V → α} {kg' : pm_V → List pm_V → β} {kn : α} {kn' : β} (h : ∀ v st, R (kg v st) (kg' v st)) (hn : R kn kn') : R (pm_sa st kg kn) (pm_sa st kg' kn') := by
  rcases st with _ | ⟨x | b | q, st⟩ <;> first | exact hn | exact h _ _
theorem pm_op2_rel {st : List pm_V} {kg : Int32 → Int32 → List pm_V → α} {kg' : Int32 → Int32 → List pm_V → β} {kn : α} {kn' : β} (h : ∀ x y st, R (kg x y st) (kg' x y st)) (hn : R kn kn') : R (pm_op2 st kg kn) (pm_op2 st kg' kn') := by
  rcases st with _ | ⟨y | b, _ | ⟨x | b2, st⟩⟩ <;> first | exact hn | exact h _ _ _
theorem pm_obj_rel {n : Nat} {st : List pm_V} {kg : Nat → Nat → List pm_V → α} {kg' : Nat → Nat → List pm_V → β} {kn : α} {kn' : β} (h : ∀ k ci st, R (kg k ci st) (kg' k ci st)) (hn : R kn kn') : R (pm_obj n st kg kn) (pm_obj n st kg' kn') := by
  rcases st with _ | ⟨x | b | (_ | k) | z, st⟩
  · exact hn
  · exact hn
  · exact hn
  · exact hn
  · show R (match pm_cls n k with | some ci => kg k ci st | none => kn) (match pm_cls n k with | some ci => kg' k ci st | none => kn')
    cases pm_cls n k with
    | none => exact hn
    | some ci => exact h _ _ _
  · exact hn
theorem pm_ald_rel {sc : pm_Sc} {t0 : Nat} {st : List pm_V} {u : pm_S} {kg : pm_V → List pm_V → α} {kg' : pm_V → List pm_V → β} {kn : α} {kn' : β} (h : ∀ v st, R (kg v st) (kg' v st)) (hn : R kn kn') : R (pm_ald sc t0 st u kg kn) (pm_ald sc t0 st u kg' kn') := by
  rcases st with _ | ⟨i | v, _ | ⟨x | b | (_ | k) | z, st⟩⟩ <;> first | exact hn | exact pm_bif_rel (h _ _) hn | skip
  show R (match pm_arr u.1 k with | some (t, len) => _ | none => kn) (match pm_arr u.1 k with | some (t, len) => _ | none => kn')
  rcases pm_arr u.1 k with _ | ⟨t, len⟩
  · exact hn
  · exact pm_bif_rel (h _ _) hn
theorem pm_ast_rel {t0 : Nat} {st : List pm_V} {u : pm_S} {kg : List pm_V → pm_S → α} {kg' : List pm_V → pm_S → β} {kn : α} {kn' : β} (h : ∀ st u, R (kg st u) (kg' st u)) (hn : R kn kn') : R (pm_ast t0 st u kg kn) (pm_ast t0 st u kg' kn') := by
  rcases st with _ | ⟨v, _ | ⟨i | i, _ | ⟨x | b | (_ | k) | z, st⟩⟩⟩ <;> first | exact hn | skip
  show R (match pm_arr u.1 k with | some (t, len) => _ | none => kn) (match pm_arr u.1 k with | some (t, len) => _ | none => kn')
  rcases pm_arr u.1 k with _ | ⟨t, len⟩
  · exact hn
  · exact pm_bif_rel (pm_put_rel (fun u => h _ u) hn) hn
theorem pm_asta_rel {st : List pm_V} {u : pm_S} {kg : List pm_V → pm_S → α} {kg' : List pm_V → pm_S → β} {kn : α} {kn' : β} (h : ∀ st u, R (kg st u) (kg' st u)) (hn : R kn kn') : R (pm_asta st u kg kn) (pm_asta st u kg' kn') := by
  rcases st with _ | ⟨y | d | (_ | q) | w, _ | ⟨i | i, _ | ⟨x | b | (_ | k) | z, st⟩⟩⟩ <;> first | exact hn | skip
  show R (match pm_arr u.1 k, pm_cls u.1 q with | some (t, len), some ci => _ | _, _ => kn) (match pm_arr u.1 k, pm_cls u.1 q with | some (t, len), some ci => _ | _, _ => kn')
  rcases pm_arr u.1 k with _ | ⟨t, len⟩ <;> rcases pm_cls u.1 q with _ | ci <;> first | exact hn | exact pm_bif_rel (h _ _) hn
theorem pm_new_rel {d : pm_Kd} {st : List pm_V} {u : pm_S} {kg : List pm_V → pm_S → α} {kg' : List pm_V → pm_S → β} {kn : α} {kn' : β} (h : ∀ st u, R (kg st u) (kg' st u)) (hn : R kn kn') : R (pm_new d st u kg kn) (pm_new d st u kg' kn') := by
  unfold pm_new
  rcases pm_kd u.1 with _ | a | ⟨a, x⟩ <;> rcases d with b | ⟨b, y⟩ <;> first | exact hn | exact pm_bif_rel (h _ _) hn
variable {c : Nat → List pm_V → pm_S → Option pm_Rs} {sc : pm_Sc} {rk : Nat}
/-- two runs of one step, with continuations that stand in R, stand in R -/
theorem pm_do_rel {ins : Jvm.ClassFile.Instr} {nx : Nat} {ax : List Nat} {lv : pm_Lv} {st : List pm_V} {u : pm_S} {kg : Nat → pm_Lv → List pm_V → pm_S → α} {kg' : Nat → pm_Lv → List pm_V → pm_S → β} {kr : pm_Rs → α} {kr' : pm_Rs → β} {kn : α} {kn' : β}
    (h : ∀ pc lv st u, R (kg pc lv st u) (kg' pc lv st u)) (hr : ∀ r, R (kr r) (kr' r)) (hn : R kn kn') : R (pm_do c sc rk ins nx ax lv st u kg kr kn) (pm_do c sc rk ins nx ax lv st u kg' kr' kn') := by
  cases ins
  case iload_n k => (simp only [pm_do]; exact pm_ld_rel (fun _ => h _ _ _ _) hn)
  case iload k => (simp only [pm_do]; exact pm_ld_rel (fun _ => h _ _ _ _) hn)
  case aload_n k => (simp only [pm_do]; exact pm_la_rel (fun _ => h _ _ _ _) hn)
  case aload k => (simp only [pm_do]; exact pm_la_rel (fun _ => h _ _ _ _) hn)
  case istore_n k => (simp only [pm_do]; exact pm_si_rel (fun _ _ => h _ _ _ _) hn)
  case istore k => (simp only [pm_do]; exact pm_si_rel (fun _ _ => h _ _ _ _) hn)
  case astore_n k => (simp only [pm_do]; exact pm_sa_rel (fun _ _ => h _ _ _ _) hn)
  case astore k => (simp only [pm_do]; exact pm_sa_rel (fun _ _ => h _ _ _ _) hn)
  case iinc i n =>
    show R (match pm_lget lv i with | some (.inl x) => kg nx (pm_lset lv i (.inl (x + Int32.ofInt n))) st u | _ => kn) (match pm_lget lv i with | some (.inl x) => kg' nx (pm_lset lv i (.inl (x + Int32.ofInt n))) st u | _ => kn')
    rcases pm_lget lv i with _ | x | b <;> first | exact hn | exact h _ _ _ _
  case iadd => exact pm_op2_rel (fun _ _ _ => h _ _ _ _) hn
  case isub => exact pm_op2_rel (fun _ _ _ => h _ _ _ _) hn
  case imul => exact pm_op2_rel (fun _ _ _ => h _ _ _ _) hn
  case iand => exact pm_op2_rel (fun _ _ _ => h _ _ _ _) hn
  case ior => exact pm_op2_rel (fun _ _ _ => h _ _ _ _) hn
  case ishl => exact pm_op2_rel (fun _ _ _ => h _ _ _ _) hn
  case ishr => exact pm_op2_rel (fun _ _ _ => h _ _ _ _) hn
  case idiv => exact pm_op2_rel (fun _ _ _ => pm_ite_rel hn (h _ _ _ _)) hn
  case irem => exact pm_op2_rel (fun _ _ _ => pm_ite_rel hn (h _ _ _ _)) hn
  case dup => rcases st with _ | ⟨v, st⟩ <;> first | exact hn | exact h _ _ _ _
  case dup2 => rcases st with _ | ⟨v, _ | ⟨w, st⟩⟩ <;> first | exact hn | exact h _ _ _ _
  case ifCond cd off => rcases st with _ | ⟨x | b | q, st⟩ <;> first | exact hn | exact pm_br_rel (h _ _ _ _) (h _ _ _ _) | exact pm_brb_rel (h _ _ _ _) (h _ _ _ _) hn
  case if_icmp cd off => rcases st with _ | ⟨y | y | q, _ | ⟨x | x | q2, st⟩⟩ <;> first | exact hn | exact pm_br2_rel (h _ _ _ _) (h _ _ _ _) | exact pm_brb2_rel (h _ _ _ _) (h _ _ _ _) hn
  case getfield i => rcases ax with _ | ⟨j, _ | ⟨ty, cis⟩⟩ <;> first | exact hn | exact pm_obj_rel (fun _ _ _ => pm_bif_rel (h _ _ _ _) hn) hn
  case putfield i => rcases ax with _ | ⟨j, _ | ⟨ty, _ | ⟨fi, cis⟩⟩⟩ <;> rcases st with _ | ⟨v, st⟩ <;> first | exact hn | exact pm_obj_rel (fun _ _ _ => pm_bif_rel (pm_put_rel (fun _ => h _ _ _ _) hn) hn) hn
  case iaload => exact pm_ald_rel (fun _ _ => h _ _ _ _) hn
  case baload => exact pm_ald_rel (fun _ _ => h _ _ _ _) hn
  case aaload => exact pm_ald_rel (fun _ _ => h _ _ _ _) hn
  case iastore => exact pm_ast_rel (fun _ _ => h _ _ _ _) hn
  case bastore => exact pm_ast_rel (fun _ _ => h _ _ _ _) hn
  case aastore => exact pm_asta_rel (fun _ _ => h _ _ _ _) hn
  case arraylength => rcases st with _ | ⟨x | b | q | z, st⟩ <;> first | exact hn | exact h _ _ _ _
  case new i => rcases ax with _ | ⟨ci, ax⟩ <;> first | exact hn | exact pm_new_rel (fun _ _ => h _ _ _ _) hn
  case newarray a => rcases ax with _ | ⟨t, _ | ⟨t2, ax⟩⟩ <;> rcases st with _ | ⟨x | b, st⟩ <;> first | exact hn | exact pm_bif_rel (pm_new_rel (fun _ _ => h _ _ _ _) hn) hn
  case anewarray a => rcases ax with _ | ⟨t, _ | ⟨t2, ax⟩⟩ <;> rcases st with _ | ⟨x | b, st⟩ <;> first | exact hn | exact pm_bif_rel (pm_new_rel (fun _ _ => h _ _ _ _) hn) hn
  case invokevirtual i =>
    rcases ax with _ | ⟨na, _ | ⟨xn, ps⟩⟩ <;> first | exact hn | skip
    show R (match pm_pop na [] st with | some (as, st) => _ | none => kn) (match pm_pop na [] st with | some (as, st) => _ | none => kn')
    rcases pm_pop na [] st with _ | ⟨as, st⟩
    · exact hn
    · refine pm_obj_rel (fun k ci st => ?_) hn
      show R (match pm_pair ps ci with | some mi => _ | none => kn) (match pm_pair ps ci with | some mi => _ | none => kn')
      rcases pm_pair ps ci with _ | mi
      · exact hn
      · exact pm_bif_rel (pm_call1_rel (fun _ _ => h _ _ _ _) hn) hn
  case invokespecial i =>
    rcases ax with _ | ⟨na, _ | ⟨mi, ax⟩⟩
    · rcases st with _ | ⟨x | b | (_ | k) | z, st⟩ <;> first | exact hn | exact pm_bif_rel (h _ _ _ _) hn
    · exact hn
    · show R (match pm_pop na [] st with | some (as, .inr (.inr (.inl (some k))) :: st) => _ | _ => kn) (match pm_pop na [] st with | some (as, .inr (.inr (.inl (some k))) :: st) => _ | _ => kn')
      rcases pm_pop na [] st with _ | ⟨as, _ | ⟨x | b | (_ | k) | z, st⟩⟩ <;> first | exact hn | exact pm_bif_rel (pm_call1_rel (fun _ _ => h _ _ _ _) hn) hn
  case invokestatic i =>
    rcases ax with _ | ⟨na, _ | ⟨mi, ax⟩⟩
    · exact hn
    · rcases na with _ | _ | na <;> first | exact hn | exact pm_op2_rel (fun _ _ _ => pm_bif_rel (h _ _ _ _) hn) hn
    · have key : R (match pm_pop na [] st with | some (as, st) => pm_gd st (pm_call1 (fun v u => kg nx lv (v.toList ++ st) u) kn (c mi as u)) kn | none => kn) (match pm_pop na [] st with | some (as, st) => pm_gd st (pm_call1 (fun v u => kg' nx lv (v.toList ++ st) u) kn' (c mi as u)) kn' | none => kn') := by
        rcases pm_pop na [] st with _ | ⟨as, st⟩
        · exact hn
        · exact pm_bif_rel (pm_call1_rel (fun _ _ => h _ _ _ _) hn) hn
      rcases na with _ | _ | na <;> exact key
  case tableswitch d lo hi offs => rcases ax with _ | ⟨d, ts⟩ <;> rcases st with _ | ⟨x | b, st⟩ <;> first | exact hn | exact pm_sw_rel (fun _ => h _ _ _ _) _ _ _
  case ireturn => exact pm_iret_rel hr hn
  case areturn => rcases rk with _ | _ | _ | _ | rk <;> rcases st with _ | ⟨x | b | q | z, _ | ⟨v2, st⟩⟩ <;> first | exact hn | exact hr _
  case return_ => rcases rk with _ | rk <;> rcases st with _ | ⟨x, st⟩ <;> first | exact hn | exact hr _
  all_goals first | exact h _ _ _ _ | exact hn
theorem pm_stp_rel {cd : pm_Cd} {pc : Nat} {lv : pm_Lv} {st : List pm_V} {u : pm_S} {kg : Nat → pm_Lv → List pm_V → pm_S → α} {kg' : Nat → pm_Lv → List pm_V → pm_S → β} {kr : pm_Rs → α} {kr' : pm_Rs → β} {kn : α} {kn' : β}
    (h : ∀ pc lv st u, R (kg pc lv st u) (kg' pc lv st u)) (hr : ∀ r, R (kr r) (kr' r)) (hn : R kn kn') : R (pm_stp c sc rk cd pc lv st u kg kr kn) (pm_stp c sc rk cd pc lv st u kg' kr' kn') := by
  unfold pm_stp
  rcases pm_find cd pc with _ | ⟨ins, nx, ax⟩
  · exact hn
  · exact pm_do_rel h hr hn
end PMR
section PME
variable (c : Nat → List pm_V → pm_S → Option pm_Rs) (sc : pm_Sc) (rk : Nat) (cd : pm_Cd)
def pm_loop : Nat → Nat → pm_Lv → List pm_V → pm_S → Option pm_Rs
  | 0, _, _, _, _ => none
  | f + 1, pc, lv, st, u => pm_stp c sc rk cd pc lv st u (pm_loop f) some none
noncomputable def pm_ev (pc : Nat) (lv : pm_Lv) (st : List pm_V) (u : pm_S) : Option pm_Rs := @dite _ (∃ f r, pm_loop c sc rk cd f pc lv st u = some r) (Classical.propDecidable _) (fun h => pm_loop c sc rk cd (Classical.choose h) pc lv st u) (fun _ => none)
end PME
section PMF
variable {c : Nat → List pm_V → pm_S → Option pm_Rs} {sc : pm_Sc} {rk : Nat} {cd : pm_Cd}
theorem pm_loop_up {r : pm_Rs} : ∀ (f : Nat) (pc : Nat) (lv : pm_Lv) (st : List pm_V) (u : pm_S), pm_loop c sc rk cd f pc lv st u = some r → pm_loop c sc rk cd (f + 1) pc lv st u = some r
  | 0, _, _, _, _, h => by cases h
  | f + 1, pc, lv, st, u, h => by
    revert h
    exact pm_stp_rel (R := fun a b => a = some r → b = some r) (fun pc lv st u => pm_loop_up f pc lv st u) (fun _ h => h) (fun h => h)
theorem pm_loop_le {r : pm_Rs} {f g : Nat} (hfg : f ≤ g) {pc : Nat} {lv : pm_Lv} {st : List pm_V} {u : pm_S} (h : pm_loop c sc rk cd f pc lv st u = some r) : pm_loop c sc rk cd g pc lv st u = some r := by
  induction hfg with
  | refl => exact h
  | step _ ih => exact pm_loop_up _ _ _ _ _ ih
theorem pm_ev_of {r : pm_Rs} {f pc : Nat} {lv : pm_Lv} {st : List pm_V} {u : pm_S} (h : pm_loop c sc rk cd f pc lv st u = some r) : pm_ev c sc rk cd pc lv st u = some r := by
  have he : ∃ f r, pm_loop c sc rk cd f pc lv st u = some r := ⟨f, r, h⟩
  unfold pm_ev
  rw [dif_pos he]
  obtain ⟨r', hr'⟩ := Classical.choose_spec he
  have h1 := pm_loop_le (Nat.le_max_left (Classical.choose he) f) hr'
  have h2 := pm_loop_le (Nat.le_max_right (Classical.choose he) f) h
  rw [h1] at h2
  rw [hr', h2]
theorem pm_ev_some {r : pm_Rs} {pc : Nat} {lv : pm_Lv} {st : List pm_V} {u : pm_S} (h : pm_ev c sc rk cd pc lv st u = some r) : ∃ f, pm_loop c sc rk cd f pc lv st u = some r := by
  unfold pm_ev at h
  by_cases he : ∃ f r, pm_loop c sc rk cd f pc lv st u = some r
  · rw [dif_pos he] at h
    exact ⟨_, h⟩
  · rw [dif_neg he] at h
    cases h
/-- one step on -/
theorem pm_ev_step (pc : Nat) (lv : pm_Lv) (st : List pm_V) (u : pm_S) : pm_ev c sc rk cd pc lv st u = pm_stp c sc rk cd pc lv st u (pm_ev c sc rk cd) some none := by
  have key : ∀ f, pm_loop c sc rk cd f = fun pc lv st u => pm_loop c sc rk cd f pc lv st u := fun _ => rfl
  -- the step, as data
  have hd : ∀ (γ : Type) (kg : Nat → pm_Lv → List pm_V → pm_S → γ) (kr : pm_Rs → γ) (kn : γ), pm_stp c sc rk cd pc lv st u kg kr kn = (match pm_stp (α := pm_St ⊕ Option pm_Rs) c sc rk cd pc lv st u (fun pc lv st u => .inl (pc, lv, st, u)) (fun r => .inr (some r)) (.inr none) with
      | .inl (pc, lv, st, u) => kg pc lv st u
      | .inr (some r) => kr r
      | .inr none => kn) := by
    intro γ kg kr kn
    exact pm_stp_rel (R := fun (a : γ) (t : pm_St ⊕ Option pm_Rs) => a = (match t with | .inl (pc, lv, st, u) => kg pc lv st u | .inr (some r) => kr r | .inr none => kn)) (fun _ _ _ _ => rfl) (fun _ => rfl) rfl
  have hl : ∀ f, pm_loop c sc rk cd (f + 1) pc lv st u = pm_stp c sc rk cd pc lv st u (pm_loop c sc rk cd f) some none := fun _ => rfl
  rw [hd]
  rcases ht : pm_stp (α := pm_St ⊕ Option pm_Rs) c sc rk cd pc lv st u (fun pc lv st u => .inl (pc, lv, st, u)) (fun r => .inr (some r)) (.inr none) with ⟨pc', lv', st', u'⟩ | _ | r
  · have h1 : ∀ f, pm_loop c sc rk cd (f + 1) pc lv st u = pm_loop c sc rk cd f pc' lv' st' u' := fun f => by rw [hl, hd, ht]
    show pm_ev c sc rk cd pc lv st u = pm_ev c sc rk cd pc' lv' st' u'
    cases hv : pm_ev c sc rk cd pc' lv' st' u' with
    | some r =>
      obtain ⟨f, hf⟩ := pm_ev_some hv
      exact pm_ev_of (f := f + 1) (by rw [h1]; exact hf)
    | none =>
      cases hw : pm_ev c sc rk cd pc lv st u with
      | none => rfl
      | some r =>
        obtain ⟨f, hf⟩ := pm_ev_some hw
        have hf1 := pm_loop_up _ _ _ _ _ hf
        rw [h1] at hf1
        rw [pm_ev_of hf1] at hv
        cases hv
  · show pm_ev c sc rk cd pc lv st u = none
    cases hw : pm_ev c sc rk cd pc lv st u with
    | none => rfl
    | some r =>
      obtain ⟨f, hf⟩ := pm_ev_some hw
      have hf1 := pm_loop_up _ _ _ _ _ hf
      rw [hl, hd, ht] at hf1
      cases hf1
  · show pm_ev c sc rk cd pc lv st u = some r
    exact pm_ev_of (f := 1) (by rw [hl, hd, ht])
/-- k steps on -/
theorem pm_ev_iter (cut : List Nat) : ∀ (k : Nat) (pc : Nat) (lv : pm_Lv) (st : List pm_V) (u : pm_S), pm_ev c sc rk cd pc lv st u = pm_iter c sc rk cd cut k pc lv st u (pm_ev c sc rk cd) some none
  | 0, _, _, _, _ => rfl
  | k + 1, pc, lv, st, u => by
    rw [pm_ev_step]
    show _ = pm_stp c sc rk cd pc lv st u (fun pc lv st u => bif cut.any (Nat.beq pc) then pm_ev c sc rk cd pc lv st u else pm_iter c sc rk cd cut k pc lv st u (pm_ev c sc rk cd) some none) some none
    refine pm_stp_rel (R := fun a b => a = b) (fun pc lv st u => ?_) (fun _ => rfl) rfl
    cases cut.any (Nat.beq pc)
    · exact pm_ev_iter cut k pc lv st u
    · rfl
end PMF
def pm_args : Nat → List pm_V → pm_Lv
  | _, [] => []
  | i, v :: vs => (i, v) :: pm_args (i + 1) vs
/-- the machine's calls, to a depth; T: code and kind of answer of each method -/
noncomputable def pm_call (T : Nat → pm_Cd × Nat) (sc : pm_Sc) : Nat → Nat → List pm_V → pm_S → Option pm_Rs
  | 0, mi, av, u => pm_ev (fun _ _ _ => none) sc (T mi).2 (T mi).1 0 (pm_args 0 av) [] u
  | d + 1, mi, av, u => pm_ev (pm_call T sc d) sc (T mi).2 (T mi).1 0 (pm_args 0 av) [] u
/-! places never go away -/
section PMN
variable {c : Nat → List pm_V → pm_S → Option pm_Rs} {sc : pm_Sc} {rk : Nat} {cd : pm_Cd}
theorem pm_put_n {ty k j : Nat} {v : pm_V} {u : pm_S} {kg : pm_S → Prop} {kn : Prop} (h : ∀ u' : pm_S, u'.1 = u.1 → kg u') (hn : kn) : pm_put ty k j v u kg kn := by
  rcases ty with _ | _ | _ | ty <;> rcases v with x | b | (_ | q) | _ <;> first | exact hn | exact h _ rfl | skip
  show if x = 0 then _ else if x = 1 then _ else _
  split
  · exact h _ rfl
  · split
    · exact h _ rfl
    · exact hn
theorem pm_bif_t {x : Bool} {a b : Prop} (ha : a) (hb : b) : (bif x then a else b) := by
  cases x
  · exact hb
  · exact ha
theorem pm_ite_t {p : Prop} {hd : Decidable p} {a b : Prop} (ha : a) (hb : b) : @ite Prop p hd a b := by
  by_cases h : p
  · rw [if_pos h]; exact ha
  · rw [if_neg h]; exact hb
theorem pm_do_all {P : pm_S → Prop} {ins : Jvm.ClassFile.Instr} {nx : Nat} {ax : List Nat} {lv : pm_Lv} {st : List pm_V} {u : pm_S} (h1 : ∀ u' : pm_S, u'.1 = u.1 → P u') (h2 : P (pm_made u)) (h3 : ∀ mi av v u', c mi av u = some (v, u') → P u') : pm_do c sc rk ins nx ax lv st u (fun _ _ _ u' => P u') (fun r => P r.2) True := by
  have h0 : P u := h1 u rfl
  have hc : ∀ mi av, pm_call1 (fun (_ : Option pm_V) u' => P u') True (c mi av u) := by
    intro mi av
    cases hcm : c mi av u with
    | none => exact trivial
    | some q => exact h3 mi av q.1 q.2 hcm
  have hnew : ∀ (d : pm_Kd) (st : List pm_V), pm_new d st u (fun _ u' => P u') True := by
    intro d st
    unfold pm_new
    rcases pm_kd u.1 with _ | a | ⟨a, x⟩ <;> rcases d with b | ⟨b, y⟩ <;> first | exact trivial | exact pm_bif_t h2 trivial
  have hobj : ∀ (st : List pm_V) (kg : Nat → Nat → List pm_V → Prop), (∀ k ci st, kg k ci st) → pm_obj u.1 st kg True := fun st kg h => pm_obj_rel (R := fun (_ : Unit) (p : Prop) => p) (kg := fun _ _ _ => ()) (kn := ()) h trivial
  cases ins
  case iload_n k => exact pm_ld_rel (R := fun (_ : Unit) (p : Prop) => p) (kg := fun _ => ()) (kn := ()) (fun _ => h0) trivial
  case iload k => exact pm_ld_rel (R := fun (_ : Unit) (p : Prop) => p) (kg := fun _ => ()) (kn := ()) (fun _ => h0) trivial
  case aload_n k => exact pm_la_rel (R := fun (_ : Unit) (p : Prop) => p) (kg := fun _ => ()) (kn := ()) (fun _ => h0) trivial
  case aload k => exact pm_la_rel (R := fun (_ : Unit) (p : Prop) => p) (kg := fun _ => ()) (kn := ()) (fun _ => h0) trivial
  case istore_n k => exact pm_si_rel (R := fun (_ : Unit) (p : Prop) => p) (kg := fun _ _ => ()) (kn := ()) (fun _ _ => h0) trivial
  case istore k => exact pm_si_rel (R := fun (_ : Unit) (p : Prop) => p) (kg := fun _ _ => ()) (kn := ()) (fun _ _ => h0) trivial
  case astore_n k => exact pm_sa_rel (R := fun (_ : Unit) (p : Prop) => p) (kg := fun _ _ => ()) (kn := ()) (fun _ _ => h0) trivial
  case astore k => exact pm_sa_rel (R := fun (_ : Unit) (p : Prop) => p) (kg := fun _ _ => ()) (kn := ()) (fun _ _ => h0) trivial
  case iinc i n =>
    show (match pm_lget lv i with | some (.inl x) => P u | _ => True)
    rcases pm_lget lv i with _ | x | b <;> first | exact trivial | exact h0
  case iadd => exact pm_op2_rel (R := fun (_ : Unit) (p : Prop) => p) (kg := fun _ _ _ => ()) (kn := ()) (fun _ _ _ => h0) trivial
  case isub => exact pm_op2_rel (R := fun (_ : Unit) (p : Prop) => p) (kg := fun _ _ _ => ()) (kn := ()) (fun _ _ _ => h0) trivial
  case imul => exact pm_op2_rel (R := fun (_ : Unit) (p : Prop) => p) (kg := fun _ _ _ => ()) (kn := ()) (fun _ _ _ => h0) trivial
  case iand => exact pm_op2_rel (R := fun (_ : Unit) (p : Prop) => p) (kg := fun _ _ _ => ()) (kn := ()) (fun _ _ _ => h0) trivial
  case ior => exact pm_op2_rel (R := fun (_ : Unit) (p : Prop) => p) (kg := fun _ _ _ => ()) (kn := ()) (fun _ _ _ => h0) trivial
  case ishl => exact pm_op2_rel (R := fun (_ : Unit) (p : Prop) => p) (kg := fun _ _ _ => ()) (kn := ()) (fun _ _ _ => h0) trivial
  case ishr => exact pm_op2_rel (R := fun (_ : Unit) (p : Prop) => p) (kg := fun _ _ _ => ()) (kn := ()) (fun _ _ _ => h0) trivial
  case idiv => exact pm_op2_rel (R := fun (_ : Unit) (p : Prop) => p) (kg := fun _ _ _ => ()) (kn := ()) (fun _ _ _ => pm_ite_t trivial h0) trivial
  case irem => exact pm_op2_rel (R := fun (_ : Unit) (p : Prop) => p) (kg := fun _ _ _ => ()) (kn := ()) (fun _ _ _ => pm_ite_t trivial h0) trivial
  case dup => rcases st with _ | ⟨v, st⟩ <;> first | exact trivial | exact h0
  case dup2 => rcases st with _ | ⟨v, _ | ⟨w, st⟩⟩ <;> first | exact trivial | exact h0
  case ifCond cd off => rcases st with _ | ⟨x | b | q, st⟩ <;> first | exact trivial | exact pm_br_rel (R := fun (_ : Unit) (p : Prop) => p) (a := ()) (b := ()) h0 h0 | exact pm_brb_rel (R := fun (_ : Unit) (p : Prop) => p) (a := ()) (b := ()) (d := ()) h0 h0 trivial
  case if_icmp cd off => rcases st with _ | ⟨y | y | q, _ | ⟨x | x | q2, st⟩⟩ <;> first | exact trivial | exact pm_br2_rel (R := fun (_ : Unit) (p : Prop) => p) (a := ()) (b := ()) h0 h0 | exact pm_brb2_rel (R := fun (_ : Unit) (p : Prop) => p) (a := ()) (b := ()) (d := ()) h0 h0 trivial
  case getfield i => rcases ax with _ | ⟨j, _ | ⟨ty, cis⟩⟩ <;> first | exact trivial | exact hobj _ _ (fun _ _ _ => pm_bif_t h0 trivial)
  case putfield i => rcases ax with _ | ⟨j, _ | ⟨ty, _ | ⟨fi, cis⟩⟩⟩ <;> rcases st with _ | ⟨v, st⟩ <;> first | exact trivial | exact hobj _ _ (fun _ _ _ => pm_bif_t (pm_put_n h1 trivial) trivial)
  case iaload => exact pm_ald_rel (R := fun (_ : Unit) (p : Prop) => p) (kg := fun _ _ => ()) (kn := ()) (fun _ _ => h0) trivial
  case baload => exact pm_ald_rel (R := fun (_ : Unit) (p : Prop) => p) (kg := fun _ _ => ()) (kn := ()) (fun _ _ => h0) trivial
  case aaload => exact pm_ald_rel (R := fun (_ : Unit) (p : Prop) => p) (kg := fun _ _ => ()) (kn := ()) (fun _ _ => h0) trivial
  case iastore =>
    rcases st with _ | ⟨v, _ | ⟨i | i, _ | ⟨x | b | (_ | k) | z, st⟩⟩⟩ <;> first | exact trivial | skip
    show (match pm_arr u.1 k with | some (t, len) => _ | none => True)
    rcases pm_arr u.1 k with _ | ⟨t, len⟩
    · exact trivial
    · exact pm_bif_t (pm_put_n h1 trivial) trivial
  case bastore =>
    rcases st with _ | ⟨v, _ | ⟨i | i, _ | ⟨x | b | (_ | k) | z, st⟩⟩⟩ <;> first | exact trivial | skip
    show (match pm_arr u.1 k with | some (t, len) => _ | none => True)
    rcases pm_arr u.1 k with _ | ⟨t, len⟩
    · exact trivial
    · exact pm_bif_t (pm_put_n h1 trivial) trivial
  case aastore =>
    rcases st with _ | ⟨y | d | (_ | q) | w, _ | ⟨i | i, _ | ⟨x | b | (_ | k) | z, st⟩⟩⟩ <;> first | exact trivial | skip
    show (match pm_arr u.1 k, pm_cls u.1 q with | some (t, len), some ci => _ | _, _ => True)
    rcases pm_arr u.1 k with _ | ⟨t, len⟩ <;> rcases pm_cls u.1 q with _ | ci <;> first | exact trivial | exact pm_bif_t (h1 _ rfl) trivial
  case arraylength => rcases st with _ | ⟨x | b | q | z, st⟩ <;> first | exact trivial | exact h0
  case new i => rcases ax with _ | ⟨ci, ax⟩ <;> first | exact trivial | (simp only [pm_do]; exact hnew (.inl ci) st)
  case newarray a => rcases ax with _ | ⟨t, _ | ⟨t2, ax⟩⟩ <;> rcases st with _ | ⟨x | b, st⟩ <;> first | exact trivial | exact pm_bif_t (hnew _ _) trivial
  case anewarray a => rcases ax with _ | ⟨t, _ | ⟨t2, ax⟩⟩ <;> rcases st with _ | ⟨x | b, st⟩ <;> first | exact trivial | exact pm_bif_t (hnew _ _) trivial
  case invokevirtual i =>
    rcases ax with _ | ⟨na, _ | ⟨xn, ps⟩⟩ <;> first | exact trivial | skip
    show (match pm_pop na [] st with | some (as, st) => _ | none => True)
    rcases pm_pop na [] st with _ | ⟨as, st⟩
    · exact trivial
    · refine hobj _ _ (fun k ci st => ?_)
      show (match pm_pair ps ci with | some mi => _ | none => True)
      rcases pm_pair ps ci with _ | mi
      · exact trivial
      · exact pm_bif_t (hc _ _) trivial
  case invokespecial i =>
    rcases ax with _ | ⟨na, _ | ⟨mi, ax⟩⟩
    · rcases st with _ | ⟨x | b | (_ | k) | z, st⟩ <;> first | exact trivial | exact pm_bif_t h0 trivial
    · exact trivial
    · show (match pm_pop na [] st with | some (as, .inr (.inr (.inl (some k))) :: st) => _ | _ => True)
      rcases pm_pop na [] st with _ | ⟨as, _ | ⟨x | b | (_ | k) | z, st⟩⟩ <;> first | exact trivial | exact pm_bif_t (hc _ _) trivial
  case invokestatic i =>
    rcases ax with _ | ⟨na, _ | ⟨mi, ax⟩⟩
    · exact trivial
    · rcases na with _ | _ | na <;> first | exact trivial | exact pm_op2_rel (R := fun (_ : Unit) (p : Prop) => p) (kg := fun _ _ _ => ()) (kn := ()) (fun _ _ _ => pm_bif_t h0 trivial) trivial
    · have key : (match pm_pop na [] st with | some (as, st) => pm_gd st (pm_call1 (fun (_ : Option pm_V) u' => P u') True (c mi as u)) True | none => True) := by
        rcases pm_pop na [] st with _ | ⟨as, st⟩
        · exact trivial
        · exact pm_bif_t (hc _ _) trivial
      rcases na with _ | _ | na <;> exact key
  case tableswitch d lo hi offs => rcases ax with _ | ⟨d, ts⟩ <;> rcases st with _ | ⟨x | b, st⟩ <;> first | exact trivial | exact pm_sw_rel (R := fun (_ : Unit) (p : Prop) => p) (kg := fun _ => ()) (fun _ => h0) _ _ _
  case ireturn => rcases rk with _ | _ | _ | rk <;> rcases st with _ | ⟨x | b | (_ | q) | _, _ | ⟨v2, st⟩⟩ <;> first | exact trivial | exact h0 | exact pm_ite_t h0 (pm_ite_t h0 trivial)
  case areturn => rcases rk with _ | _ | _ | _ | rk <;> rcases st with _ | ⟨x | b | q | z, _ | ⟨v2, st⟩⟩ <;> first | exact trivial | exact h0
  case return_ => rcases rk with _ | rk <;> rcases st with _ | ⟨x, st⟩ <;> first | exact trivial | exact h0
  all_goals first | exact h0 | exact trivial
theorem pm_loop_n (hc : ∀ mi av u v u', c mi av u = some (v, u') → u.1 ≤ u'.1) {r : pm_Rs} : ∀ (f : Nat) (pc : Nat) (lv : pm_Lv) (st : List pm_V) (u : pm_S), pm_loop c sc rk cd f pc lv st u = some r → u.1 ≤ r.2.1
  | 0, _, _, _, _, h => by cases h
  | f + 1, pc, lv, st, u, h => by
    have hP : pm_stp c sc rk cd pc lv st u (fun _ _ _ u' => u.1 ≤ u'.1) (fun r => u.1 ≤ r.2.1) True := by
      unfold pm_stp
      rcases pm_find cd pc with _ | ⟨ins, nx, ax⟩
      · exact trivial
      · exact pm_do_all (P := fun u' => u.1 ≤ u'.1) (fun u' e => Nat.le_of_eq e.symm) (Nat.le_succ _) (fun mi av v u' hv => hc mi av u v u' hv)
    revert h hP
    exact pm_stp_rel (R := fun (a : Option pm_Rs) (p : Prop) => a = some r → p → u.1 ≤ r.2.1) (fun pc lv st u' h hP => Nat.le_trans hP (pm_loop_n hc f pc lv st u' h)) (fun r' h hP => by cases h; exact hP) (fun h => by cases h)
end PMN
theorem pm_call_n {T : Nat → pm_Cd × Nat} {sc : pm_Sc} : ∀ (d mi : Nat) (av : List pm_V) (u : pm_S) (v : Option pm_V) (u' : pm_S), pm_call T sc d mi av u = some (v, u') → u.1 ≤ u'.1
  | 0, mi, av, u, v, u', h => by
    obtain ⟨f, hf⟩ := pm_ev_some h
    exact pm_loop_n (r := (v, u')) (fun _ _ _ _ _ h => by cases h) f _ _ _ _ hf
  | d + 1, mi, av, u, v, u', h => by
    obtain ⟨f, hf⟩ := pm_ev_some h
    exact pm_loop_n (r := (v, u')) (fun mi av u v u' h => pm_call_n d mi av u v u' h) f _ _ _ _ hf
end
section
/-! The memory of places in the model's heap: place k stands at z + k, z the heap's size at the law's start; all that is made since is a place, in the order of making. -/
def pm_cn (k : Nat) : String := ["PlatformDoors", "PlatformDoors$Frame", "PlatformDoors$Leaf", "PlatformDoors$Line", "PlatformDoors$Platform", "PlatformDoors$Train", "PlatformDoorsModel", "PlatformDoors$Side", "PlatformDoorsLaw"].getD k ""
abbrev pm_Fd : Type := String × String × String × Bool × Nat
def pm_side : List pm_Fd := [("PlatformDoors$Side", "leaves", "[LPlatformDoors$Leaf;", true, 2), ("PlatformDoors$Side", "newest", "LPlatformDoors$Frame;", true, 2), ("PlatformDoors$Side", "incoming", "LPlatformDoors$Line;", true, 2), ("PlatformDoors$Side", "outgoing", "LPlatformDoors$Line;", true, 2), ("PlatformDoors$Side", "steps", "I", false, 0), ("PlatformDoors$Side", "state", "I", false, 0), ("PlatformDoors$Side", "warningBegan", "I", false, 0), ("PlatformDoors$Side", "openedAt", "I", false, 0), ("PlatformDoors$Side", "openings", "I", false, 0)]
def pm_mf (n : String) (d : String) (t : Nat) : pm_Fd := ("PlatformDoorsModel", n, d, Nat.beq t 2, t)
def pm_fd : List (String × List pm_Fd) := [
  ("PlatformDoors", [("PlatformDoors", "train", "LPlatformDoors$Train;", true, 2), ("PlatformDoors", "platform", "LPlatformDoors$Platform;", true, 2), ("PlatformDoors", "stoodAt", "I", false, 0), ("PlatformDoors", "breachCount", "I", false, 0)]),
  ("PlatformDoors$Frame", [("PlatformDoors$Frame", "number", "I", false, 0), ("PlatformDoors$Frame", "echo", "I", false, 0), ("PlatformDoors$Frame", "state", "I", false, 0), ("PlatformDoors$Frame", "isolatedBits", "I", false, 0), ("PlatformDoors$Frame", "assured", "Z", false, 1), ("PlatformDoors$Frame", "commandIsOpen", "Z", false, 1)]),
  ("PlatformDoors$Leaf", [("PlatformDoors$Leaf", "contacts", "[I", true, 2), ("PlatformDoors$Leaf", "position", "I", false, 0), ("PlatformDoors$Leaf", "retries", "I", false, 0), ("PlatformDoors$Leaf", "reopening", "I", false, 0), ("PlatformDoors$Leaf", "obstructed", "I", false, 0), ("PlatformDoors$Leaf", "wantedOpen", "Z", false, 1), ("PlatformDoors$Leaf", "isolated", "Z", false, 1), ("PlatformDoors$Leaf", "released", "Z", false, 1), ("PlatformDoors$Leaf", "callsStaff", "Z", false, 1)]),
  ("PlatformDoors$Line", [("PlatformDoors$Line", "frames", "[LPlatformDoors$Frame;", true, 2), ("PlatformDoors$Line", "count", "I", false, 0)]),
  ("PlatformDoors$Platform", pm_side),
  ("PlatformDoors$Train", pm_side ++ [("PlatformDoors$Train", "place", "I", false, 0), ("PlatformDoors$Train", "speed", "I", false, 0), ("PlatformDoors$Train", "measuringError", "I", false, 0), ("PlatformDoors$Train", "stepsAtRest", "I", false, 0), ("PlatformDoors$Train", "commandIsOpen", "Z", false, 1)]),
  ("PlatformDoorsModel", [pm_mf "steps" "[I" 2, pm_mf "state" "[I" 2, pm_mf "warned" "[I" 2, pm_mf "opened" "[I" 2, pm_mf "has" "[Z" 2, pm_mf "taken" "[I" 2, pm_mf "many" "[I" 2, pm_mf "frames" "[I" 2, pm_mf "position" "[I" 2, pm_mf "isolated" "[Z" 2, pm_mf "released" "[Z" 2, pm_mf "wanted" "[Z" 2, pm_mf "staff" "[Z" 2, pm_mf "obstructed" "[I" 2, pm_mf "retries" "[I" 2, pm_mf "reopening" "[I" 2, pm_mf "contacts" "[I" 2, pm_mf "place" "I" 0, pm_mf "speed" "I" 0, pm_mf "error" "I" 0, pm_mf "still" "I" 0, pm_mf "command" "Z" 1, pm_mf "there" "I" 0, pm_mf "breaches" "I" 0])]
def pm_T (fs : List pm_Fd) : u_T := fun k => ((fs.getD k ("", "", "", false, 0)).1, (fs.getD k ("", "", "", false, 0)).2.1, (fs.getD k ("", "", "", false, 0)).2.2.1, (fs.getD k ("", "", "", false, 0)).2.2.2.1)
def pm_tl (fs : List pm_Fd) : List Nat := fs.map (fun q => q.2.2.2.2)
def pm_cl : List vw_C := pm_fd.map (fun q => (q.1, pm_T q.2, q.2.length))
def pm_fs0 (ci : Nat) : List pm_Fd := (pm_fd.getD ci ("", [])).2
abbrev pm_G : Type := va_G × (Nat → ClassId) × Nat × Nat
def pm_rz (z : Nat) (q : Option Nat) : Option Nat := q.map (fun k => z + k)
def pm_vl (z b : Nat) : pm_V → Value
  | .inl x => .int x
  | .inr (.inl w) => .int (bif w then 1 else 0)
  | .inr (.inr (.inl q)) => va_rf (pm_rz z q)
  | .inr (.inr (.inr _)) => .ref b
theorem pm_cat (z b : Nat) (v : pm_V) : (pm_vl z b v).category = 1 := by
  rcases v with x | w | (_ | q) | _ <;> rfl
def pm_sv (ty z : Nat) (x : Int32) (w : Bool) (r : Option Nat) : Value := match ty with
  | 0 => .int x
  | 1 => .int (bif w then 1 else 0)
  | _ => va_rf (pm_rz z r)
theorem pm_vl_get (z b ty k j : Nat) (u : pm_S) : pm_vl z b (pm_get ty k j u) = pm_sv ty z (u.2.1 k j) (u.2.2.1 k j) (u.2.2.2 k j) := by
  rcases ty with _ | _ | ty <;> rfl
def pm_fs (tl : List Nat) (z : Nat) (x : Nat → Int32) (w : Nat → Bool) (r : Nat → Option Nat) : List Value := (List.range tl.length).map (fun j => pm_sv (tl.getD j 0) z (x j) (w j) (r j))
def pm_ac (t z : Nat) (x : Nat → Int32) (w : Nat → Bool) (r : Nat → Option Nat) : (Nat → Int32) ⊕ (Nat → Int64) ⊕ (Nat → UInt32) ⊕ (Nat → UInt64) ⊕ (Nat → Option Nat) := match t with
  | 0 => .inl x
  | 1 => .inl (fun j => bif w j then 1 else 0)
  | _ => .inr (.inr (.inr (.inr (fun j => pm_rz z (r j)))))
def pm_cell (G : pm_G) (d : pm_Kd) (x : Nat → Int32) (w : Nat → Bool) (r : Nat → Option Nat) : va_E := match d with
  | .inl ci => .inr (ci, pm_fs (pm_tl (pm_fs0 ci)) G.2.2.1 x w r)
  | .inr (t, len) => .inl (G.2.1 t, len, pm_ac t G.2.2.1 x w r)
def pm_kx (k : Nat) : pm_Kd := (pm_kd k).getD (.inl 0)
def pm_ws (G : pm_G) (u : pm_S) : va_W := (List.range u.1).map (fun k => (G.2.2.1 + k, pm_cell G (pm_kx k) (u.2.1 k) (u.2.2.1 k) (u.2.2.2 k)))
/-- the heap holds the memory, and ends behind its last place -/
def pm_H (G : pm_G) (u : pm_S) (H : Heap) : Prop := H.size = G.2.2.1 + u.1 ∧ va_P G.1 pm_cl (pm_ws G u) H
def pm_A (G : pm_G) : Nat → Prop := fun q => G.2.2.1 ≤ q
theorem pm_ws_get {G : pm_G} {u : pm_S} {k : Nat} (h : k < u.1) : (pm_ws G u)[k]? = some (G.2.2.1 + k, pm_cell G (pm_kx k) (u.2.1 k) (u.2.2.1 k) (u.2.2.2 k)) := by
  unfold pm_ws
  rw [List.getElem?_map, List.getElem?_range h]
  rfl
theorem pm_ws_D {G : pm_G} {u : pm_S} : va_D (pm_A G) (pm_ws G u) := by
  have key : ∀ (k : Nat) (q : Nat × va_E), (pm_ws G u)[k]? = some q → q.1 = G.2.2.1 + k := by
    intro k q hk
    have hl : k < u.1 := by
      have := (List.getElem?_eq_some_iff.mp hk).1
      simpa [pm_ws] using this
    rw [pm_ws_get hl] at hk
    cases hk
    rfl
  refine ⟨fun i j p q hi hj hpq => ?_, fun k q hk => ?_⟩
  · have h1 := key i p hi
    have h2 := key j q hj
    omega
  · show G.2.2.1 ≤ q.1
    rw [key k q hk]
    omega
/-- a cell is written: the memory differs at that place alone -/
theorem pm_ws_set {G : pm_G} {u u' : pm_S} {k : Nat} {e : va_E} (hn : u'.1 = u.1) (he : pm_cell G (pm_kx k) (u'.2.1 k) (u'.2.2.1 k) (u'.2.2.2 k) = e) (hx : ∀ a, a ≠ k → u'.2.1 a = u.2.1 a) (hw : ∀ a, a ≠ k → u'.2.2.1 a = u.2.2.1 a) (hr : ∀ a, a ≠ k → u'.2.2.2 a = u.2.2.2 a) : (pm_ws G u).set k (G.2.2.1 + k, e) = pm_ws G u' := by
  apply List.ext_getElem?
  intro i
  rw [List.getElem?_set]
  by_cases hi : i < u.1
  · rw [pm_ws_get (u := u') (by omega)]
    by_cases hk : k = i
    · subst hk
      have hl : k < (pm_ws G u).length := by simpa [pm_ws] using hi
      rw [if_pos rfl, if_pos hl, he]
    · rw [if_neg hk, pm_ws_get hi, hx i (Ne.symm hk), hw i (Ne.symm hk), hr i (Ne.symm hk)]
  · have h1 : (pm_ws G u).length ≤ i := by simpa [pm_ws] using Nat.not_lt.mp hi
    have h2 : (pm_ws G u').length ≤ i := by simp [pm_ws]; omega
    rw [List.getElem?_eq_none h2]
    by_cases hk : k = i
    · subst hk
      rw [if_pos rfl, if_neg (by omega)]
    · rw [if_neg hk, List.getElem?_eq_none h1]
/-- a new place -/
theorem pm_ws_push {G : pm_G} {u u' : pm_S} {e : va_E} (hn : u'.1 = u.1 + 1) (he : pm_cell G (pm_kx u.1) (u'.2.1 u.1) (u'.2.2.1 u.1) (u'.2.2.2 u.1) = e) (hx : ∀ a, a ≠ u.1 → u'.2.1 a = u.2.1 a) (hw : ∀ a, a ≠ u.1 → u'.2.2.1 a = u.2.2.1 a) (hr : ∀ a, a ≠ u.1 → u'.2.2.2 a = u.2.2.2 a) : pm_ws G u ++ [(G.2.2.1 + u.1, e)] = pm_ws G u' := by
  apply List.ext_getElem?
  intro i
  have hlen : (pm_ws G u).length = u.1 := by simp [pm_ws]
  by_cases hi : i < u.1
  · rw [List.getElem?_append_left (by omega), pm_ws_get hi, pm_ws_get (u := u') (by omega), hx i (by omega), hw i (by omega), hr i (by omega)]
  · by_cases hk : i = u.1
    · subst hk
      rw [List.getElem?_append_right (by omega), hlen, Nat.sub_self, pm_ws_get (u := u') (by omega), he]
      rfl
    · have h2 : (pm_ws G u').length ≤ i := by simp [pm_ws]; omega
      rw [List.getElem?_eq_none h2, List.getElem?_eq_none (by simp [hlen]; omega)]
theorem pm_up_ne {α : Type} {x : Nat → Nat → α} {k j a : Nat} {v : α} (h : a ≠ k) : pm_up x k j v a = x a := by
  funext b
  have : Nat.beq a k = false := by
    cases hb : Nat.beq a k
    · rfl
    · exact absurd (Nat.eq_of_beq_eq_true hb) h
  simp [pm_up, this]
theorem pm_up_at {α : Type} {x : Nat → Nat → α} {k j b : Nat} {v : α} : pm_up x k j v k b = if b = j then v else x k b := by
  have h1 : Nat.beq k k = true := Nat.beq_refl k
  by_cases h : b = j
  · subst h
    simp [pm_up, h1, Nat.beq_refl]
  · have : Nat.beq b j = false := by
      cases hb : Nat.beq b j
      · rfl
      · exact absurd (Nat.eq_of_beq_eq_true hb) h
    simp [pm_up, h1, this, h]
theorem pm_up_eq {α : Type} {x : Nat → Nat → α} {k j a b : Nat} {v : α} : pm_up x k j v a b = if a = k ∧ b = j then v else x a b := by
  by_cases h : a = k
  · subst h
    rw [pm_up_at]
    by_cases hb : b = j
    · rw [if_pos hb, if_pos ⟨rfl, hb⟩]
    · rw [if_neg hb, if_neg (fun z => hb z.2)]
  · rw [pm_up_ne h, if_neg (fun z => h z.1)]
theorem pm_fz_ne {α : Type} {x : Nat → Nat → α} {k a : Nat} {v : α} (h : a ≠ k) : pm_fz x k v a = x a := by
  funext b
  have : Nat.beq a k = false := by
    cases hb : Nat.beq a k
    · rfl
    · exact absurd (Nat.eq_of_beq_eq_true hb) h
  simp [pm_fz, this]
theorem pm_fz_at {α : Type} {x : Nat → Nat → α} {k : Nat} {v : α} : pm_fz x k v k = fun _ => v := by
  funext b
  simp [pm_fz, Nat.beq_refl]
theorem pm_fs_get {tl : List Nat} {z : Nat} {x : Nat → Int32} {w : Nat → Bool} {r : Nat → Option Nat} {j : Nat} (h : j < tl.length) : (pm_fs tl z x w r)[j]? = some (pm_sv (tl.getD j 0) z (x j) (w j) (r j)) := by
  unfold pm_fs
  rw [List.getElem?_map, List.getElem?_range h]
  rfl
theorem pm_fs_len {tl : List Nat} {z : Nat} {x : Nat → Int32} {w : Nat → Bool} {r : Nat → Option Nat} : (pm_fs tl z x w r).length = tl.length := by simp [pm_fs]
theorem pm_fs_set {tl : List Nat} {z : Nat} {x x' : Nat → Int32} {w w' : Nat → Bool} {r r' : Nat → Option Nat} {j : Nat} {v : Value} (hj : j < tl.length) (hs : pm_sv (tl.getD j 0) z (x' j) (w' j) (r' j) = v) (hx : ∀ b, b ≠ j → x' b = x b) (hw : ∀ b, b ≠ j → w' b = w b) (hr : ∀ b, b ≠ j → r' b = r b) : (pm_fs tl z x w r).set j v = pm_fs tl z x' w' r' := by
  apply List.ext_getElem?
  intro i
  rw [List.getElem?_set]
  by_cases hi : i < tl.length
  · rw [pm_fs_get (x := x') hi]
    by_cases hk : j = i
    · subst hk
      rw [if_pos rfl, if_pos (by rw [pm_fs_len]; exact hi), hs]
    · rw [if_neg hk, pm_fs_get hi, hx i (Ne.symm hk), hw i (Ne.symm hk), hr i (Ne.symm hk)]
  · have h1 : (pm_fs tl z x w r).length ≤ i := by rw [pm_fs_len]; omega
    have h2 : (pm_fs tl z x' w' r').length ≤ i := by rw [pm_fs_len]; omega
    rw [List.getElem?_eq_none h2]
    by_cases hk : j = i
    · subst hk
      rw [if_pos rfl, if_neg (by omega)]
    · rw [if_neg hk, List.getElem?_eq_none h1]
/-! places by their kind -/
theorem pm_blt {a b : Nat} (h : Nat.blt a b = true) : a < b := Nat.le_of_ble_eq_true h
theorem pm_beq {a b : Nat} (h : Nat.beq a b = true) : a = b := Nat.eq_of_beq_eq_true h
theorem pm_cls_spec {n k ci : Nat} (h : pm_cls n k = some ci) : k < n ∧ pm_kd k = some (.inl ci) := by
  unfold pm_cls at h
  cases hb : Nat.blt k n with
  | false => rw [hb] at h; cases h
  | true =>
    rw [hb] at h
    refine ⟨pm_blt hb, ?_⟩
    revert h
    cases hk : pm_kd k with
    | none => intro h; cases h
    | some d =>
      rcases d with a | a
      · intro h
        simp at h
        rw [h]
      · intro h; cases h
theorem pm_arr_spec {n k : Nat} {a : Nat × Nat} (h : pm_arr n k = some a) : k < n ∧ pm_kd k = some (.inr a) := by
  unfold pm_arr at h
  cases hb : Nat.blt k n with
  | false => rw [hb] at h; cases h
  | true =>
    rw [hb] at h
    refine ⟨pm_blt hb, ?_⟩
    revert h
    cases hk : pm_kd k with
    | none => intro h; cases h
    | some d =>
      rcases d with a | a
      · intro h; cases h
      · intro h
        simp at h
        rw [h]
theorem pm_kx_of {k : Nat} {d : pm_Kd} (h : pm_kd k = some d) : pm_kx k = d := by
  unfold pm_kx
  rw [h]
  rfl
theorem pm_ib_in {i : Int32} {len : Nat} (h : pm_ib i len = true) : vp_in i len := by
  unfold pm_ib at h
  simp only [Bool.and_eq_true, Bool.not_eq_true', decide_eq_false_iff_not] at h
  intro q
  rcases q with q | q
  · exact h.1 q
  · have := pm_blt h.2
    omega
end

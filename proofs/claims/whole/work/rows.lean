section
-- ===== PART A: goes FIRST, ahead of the names: the tables' words, and 'selects' of the private methods out of them =====
/-- a private method of a class that the tables say can be made, by its rows of tables_1 -/
def lw_okq (q : MethodName × Nat) : Prop := (q.1.cls ≠ "java/lang/invoke/MethodHandle" ∧ q.1.cls ≠ "java/lang/invoke/VarHandle") ∧ Cond.instantiable q.1.cls q.2 ∈ tables_1 ∧ Cond.privateMethod q.1 ∈ tables_1 ∧ Cond.instanceMethod q.1 ∈ tables_1
theorem lw_p0 : lw_okq (⟨"PlatformDoors", "restart", "()V"⟩, 4) := ⟨⟨by decide +kernel, by decide +kernel⟩, List.mem_of_getElem? (i := 11) (by decide +kernel), List.mem_of_getElem? (i := 200) (by decide +kernel), List.mem_of_getElem? (i := 201) (by decide +kernel)⟩
theorem lw_p1 : lw_okq (⟨"PlatformDoors", "sideOf", "(I)LPlatformDoors$Side;"⟩, 4) := ⟨⟨by decide +kernel, by decide +kernel⟩, List.mem_of_getElem? (i := 11) (by decide +kernel), List.mem_of_getElem? (i := 253) (by decide +kernel), List.mem_of_getElem? (i := 254) (by decide +kernel)⟩
theorem lw_p2 : lw_okq (⟨"PlatformDoors$Train", "isReady", "()Z"⟩, 14) := ⟨⟨by decide +kernel, by decide +kernel⟩, List.mem_of_getElem? (i := 71) (by decide +kernel), List.mem_of_getElem? (i := 297) (by decide +kernel), List.mem_of_getElem? (i := 298) (by decide +kernel)⟩
theorem lw_p3 : lw_okq (⟨"PlatformDoors$Leaf", "move", "()V"⟩, 9) := ⟨⟨by decide +kernel, by decide +kernel⟩, List.mem_of_getElem? (i := 83) (by decide +kernel), List.mem_of_getElem? (i := 331) (by decide +kernel), List.mem_of_getElem? (i := 332) (by decide +kernel)⟩
theorem lw_p4 : lw_okq (⟨"PlatformDoors$Leaf", "feel", "()V"⟩, 9) := ⟨⟨by decide +kernel, by decide +kernel⟩, List.mem_of_getElem? (i := 83) (by decide +kernel), List.mem_of_getElem? (i := 338) (by decide +kernel), List.mem_of_getElem? (i := 339) (by decide +kernel)⟩
theorem lw_p5 : lw_okq (⟨"PlatformDoors", "watchTrain", "()V"⟩, 4) := ⟨⟨by decide +kernel, by decide +kernel⟩, List.mem_of_getElem? (i := 11) (by decide +kernel), List.mem_of_getElem? (i := 399) (by decide +kernel), List.mem_of_getElem? (i := 400) (by decide +kernel)⟩
theorem lw_p6 : lw_okq (⟨"PlatformDoors", "watchPlatform", "()V"⟩, 4) := ⟨⟨by decide +kernel, by decide +kernel⟩, List.mem_of_getElem? (i := 11) (by decide +kernel), List.mem_of_getElem? (i := 407) (by decide +kernel), List.mem_of_getElem? (i := 408) (by decide +kernel)⟩
theorem lw_p7 : lw_okq (⟨"PlatformDoors", "isUnderWay", "(II)Z"⟩, 4) := ⟨⟨by decide +kernel, by decide +kernel⟩, List.mem_of_getElem? (i := 11) (by decide +kernel), List.mem_of_getElem? (i := 449) (by decide +kernel), List.mem_of_getElem? (i := 450) (by decide +kernel)⟩
theorem lw_p8 : lw_okq (⟨"PlatformDoorsModel", "stepOne", "(I)V"⟩, 24) := ⟨⟨by decide +kernel, by decide +kernel⟩, List.mem_of_getElem? (i := 524) (by decide +kernel), List.mem_of_getElem? (i := 616) (by decide +kernel), List.mem_of_getElem? (i := 617) (by decide +kernel)⟩
theorem lw_p9 : lw_okq (⟨"PlatformDoorsModel", "changeState", "(I)V"⟩, 24) := ⟨⟨by decide +kernel, by decide +kernel⟩, List.mem_of_getElem? (i := 524) (by decide +kernel), List.mem_of_getElem? (i := 620) (by decide +kernel), List.mem_of_getElem? (i := 621) (by decide +kernel)⟩
theorem lw_p10 : lw_okq (⟨"PlatformDoorsModel", "mayOpen", "(I)Z"⟩, 24) := ⟨⟨by decide +kernel, by decide +kernel⟩, List.mem_of_getElem? (i := 524) (by decide +kernel), List.mem_of_getElem? (i := 624) (by decide +kernel), List.mem_of_getElem? (i := 625) (by decide +kernel)⟩
theorem lw_p11 : lw_okq (⟨"PlatformDoorsModel", "isFresh", "(I)Z"⟩, 24) := ⟨⟨by decide +kernel, by decide +kernel⟩, List.mem_of_getElem? (i := 524) (by decide +kernel), List.mem_of_getElem? (i := 628) (by decide +kernel), List.mem_of_getElem? (i := 629) (by decide +kernel)⟩
theorem lw_p12 : lw_okq (⟨"PlatformDoorsModel", "age", "(I)I"⟩, 24) := ⟨⟨by decide +kernel, by decide +kernel⟩, List.mem_of_getElem? (i := 524) (by decide +kernel), List.mem_of_getElem? (i := 632) (by decide +kernel), List.mem_of_getElem? (i := 633) (by decide +kernel)⟩
theorem lw_p13 : lw_okq (⟨"PlatformDoorsModel", "isReady", "()Z"⟩, 24) := ⟨⟨by decide +kernel, by decide +kernel⟩, List.mem_of_getElem? (i := 524) (by decide +kernel), List.mem_of_getElem? (i := 636) (by decide +kernel), List.mem_of_getElem? (i := 637) (by decide +kernel)⟩
theorem lw_p14 : lw_okq (⟨"PlatformDoorsModel", "mustClose", "(I)Z"⟩, 24) := ⟨⟨by decide +kernel, by decide +kernel⟩, List.mem_of_getElem? (i := 524) (by decide +kernel), List.mem_of_getElem? (i := 640) (by decide +kernel), List.mem_of_getElem? (i := 641) (by decide +kernel)⟩
theorem lw_p15 : lw_okq (⟨"PlatformDoorsModel", "isStale", "(I)Z"⟩, 24) := ⟨⟨by decide +kernel, by decide +kernel⟩, List.mem_of_getElem? (i := 524) (by decide +kernel), List.mem_of_getElem? (i := 644) (by decide +kernel), List.mem_of_getElem? (i := 645) (by decide +kernel)⟩
def lw_privs_1 : List (MethodName × Nat) := [(⟨"PlatformDoors", "restart", "()V"⟩, 4), (⟨"PlatformDoors", "sideOf", "(I)LPlatformDoors$Side;"⟩, 4), (⟨"PlatformDoors$Train", "isReady", "()Z"⟩, 14), (⟨"PlatformDoors$Leaf", "move", "()V"⟩, 9), (⟨"PlatformDoors$Leaf", "feel", "()V"⟩, 9), (⟨"PlatformDoors", "watchTrain", "()V"⟩, 4), (⟨"PlatformDoors", "watchPlatform", "()V"⟩, 4), (⟨"PlatformDoors", "isUnderWay", "(II)Z"⟩, 4), (⟨"PlatformDoorsModel", "stepOne", "(I)V"⟩, 24), (⟨"PlatformDoorsModel", "changeState", "(I)V"⟩, 24), (⟨"PlatformDoorsModel", "mayOpen", "(I)Z"⟩, 24), (⟨"PlatformDoorsModel", "isFresh", "(I)Z"⟩, 24), (⟨"PlatformDoorsModel", "age", "(I)I"⟩, 24), (⟨"PlatformDoorsModel", "isReady", "()Z"⟩, 24), (⟨"PlatformDoorsModel", "mustClose", "(I)Z"⟩, 24), (⟨"PlatformDoorsModel", "isStale", "(I)Z"⟩, 24)]
theorem lw_r1 : ∀ q ∈ lw_privs_1, lw_okq q := List.forall_mem_cons.mpr ⟨lw_p0, List.forall_mem_cons.mpr ⟨lw_p1, List.forall_mem_cons.mpr ⟨lw_p2, List.forall_mem_cons.mpr ⟨lw_p3, List.forall_mem_cons.mpr ⟨lw_p4, List.forall_mem_cons.mpr ⟨lw_p5, List.forall_mem_cons.mpr ⟨lw_p6, List.forall_mem_cons.mpr ⟨lw_p7, List.forall_mem_cons.mpr ⟨lw_p8, List.forall_mem_cons.mpr ⟨lw_p9, List.forall_mem_cons.mpr ⟨lw_p10, List.forall_mem_cons.mpr ⟨lw_p11, List.forall_mem_cons.mpr ⟨lw_p12, List.forall_mem_cons.mpr ⟨lw_p13, List.forall_mem_cons.mpr ⟨lw_p14, List.forall_mem_cons.mpr ⟨lw_p15, fun _ h => absurd h List.not_mem_nil⟩⟩⟩⟩⟩⟩⟩⟩⟩⟩⟩⟩⟩⟩⟩⟩
theorem lw_p16 : lw_okq (⟨"PlatformDoorsModel", "moveLeaf", "(II)V"⟩, 24) := ⟨⟨by decide +kernel, by decide +kernel⟩, List.mem_of_getElem? (i := 524) (by decide +kernel), List.mem_of_getElem? (i := 648) (by decide +kernel), List.mem_of_getElem? (i := 649) (by decide +kernel)⟩
theorem lw_p17 : lw_okq (⟨"PlatformDoorsModel", "isLocked", "(I)Z"⟩, 24) := ⟨⟨by decide +kernel, by decide +kernel⟩, List.mem_of_getElem? (i := 524) (by decide +kernel), List.mem_of_getElem? (i := 652) (by decide +kernel), List.mem_of_getElem? (i := 653) (by decide +kernel)⟩
theorem lw_p18 : lw_okq (⟨"PlatformDoorsModel", "send", "(I)V"⟩, 24) := ⟨⟨by decide +kernel, by decide +kernel⟩, List.mem_of_getElem? (i := 524) (by decide +kernel), List.mem_of_getElem? (i := 656) (by decide +kernel), List.mem_of_getElem? (i := 657) (by decide +kernel)⟩
theorem lw_p19 : lw_okq (⟨"PlatformDoorsModel", "isolatedBits", "(I)I"⟩, 24) := ⟨⟨by decide +kernel, by decide +kernel⟩, List.mem_of_getElem? (i := 524) (by decide +kernel), List.mem_of_getElem? (i := 660) (by decide +kernel), List.mem_of_getElem? (i := 661) (by decide +kernel)⟩
theorem lw_p20 : lw_okq (⟨"PlatformDoorsModel", "isGood", "(I)Z"⟩, 24) := ⟨⟨by decide +kernel, by decide +kernel⟩, List.mem_of_getElem? (i := 524) (by decide +kernel), List.mem_of_getElem? (i := 664) (by decide +kernel), List.mem_of_getElem? (i := 665) (by decide +kernel)⟩
theorem lw_p21 : lw_okq (⟨"PlatformDoorsModel", "toldLeaves", "(I)I"⟩, 24) := ⟨⟨by decide +kernel, by decide +kernel⟩, List.mem_of_getElem? (i := 524) (by decide +kernel), List.mem_of_getElem? (i := 668) (by decide +kernel), List.mem_of_getElem? (i := 669) (by decide +kernel)⟩
theorem lw_p22 : lw_okq (⟨"PlatformDoorsModel", "isTold", "(I)Z"⟩, 24) := ⟨⟨by decide +kernel, by decide +kernel⟩, List.mem_of_getElem? (i := 524) (by decide +kernel), List.mem_of_getElem? (i := 672) (by decide +kernel), List.mem_of_getElem? (i := 673) (by decide +kernel)⟩
theorem lw_p23 : lw_okq (⟨"PlatformDoorsModel", "says", "(IZ)Z"⟩, 24) := ⟨⟨by decide +kernel, by decide +kernel⟩, List.mem_of_getElem? (i := 524) (by decide +kernel), List.mem_of_getElem? (i := 676) (by decide +kernel), List.mem_of_getElem? (i := 677) (by decide +kernel)⟩
theorem lw_p24 : lw_okq (⟨"PlatformDoorsModel", "noFrame", "(II)Z"⟩, 24) := ⟨⟨by decide +kernel, by decide +kernel⟩, List.mem_of_getElem? (i := 524) (by decide +kernel), List.mem_of_getElem? (i := 717) (by decide +kernel), List.mem_of_getElem? (i := 718) (by decide +kernel)⟩
theorem lw_p25 : lw_okq (⟨"PlatformDoorsModel", "takeOut", "(II)V"⟩, 24) := ⟨⟨by decide +kernel, by decide +kernel⟩, List.mem_of_getElem? (i := 524) (by decide +kernel), List.mem_of_getElem? (i := 721) (by decide +kernel), List.mem_of_getElem? (i := 722) (by decide +kernel)⟩
def lw_privs_2 : List (MethodName × Nat) := [(⟨"PlatformDoorsModel", "moveLeaf", "(II)V"⟩, 24), (⟨"PlatformDoorsModel", "isLocked", "(I)Z"⟩, 24), (⟨"PlatformDoorsModel", "send", "(I)V"⟩, 24), (⟨"PlatformDoorsModel", "isolatedBits", "(I)I"⟩, 24), (⟨"PlatformDoorsModel", "isGood", "(I)Z"⟩, 24), (⟨"PlatformDoorsModel", "toldLeaves", "(I)I"⟩, 24), (⟨"PlatformDoorsModel", "isTold", "(I)Z"⟩, 24), (⟨"PlatformDoorsModel", "says", "(IZ)Z"⟩, 24), (⟨"PlatformDoorsModel", "noFrame", "(II)Z"⟩, 24), (⟨"PlatformDoorsModel", "takeOut", "(II)V"⟩, 24)]
theorem lw_r2 : ∀ q ∈ lw_privs_2, lw_okq q := List.forall_mem_cons.mpr ⟨lw_p16, List.forall_mem_cons.mpr ⟨lw_p17, List.forall_mem_cons.mpr ⟨lw_p18, List.forall_mem_cons.mpr ⟨lw_p19, List.forall_mem_cons.mpr ⟨lw_p20, List.forall_mem_cons.mpr ⟨lw_p21, List.forall_mem_cons.mpr ⟨lw_p22, List.forall_mem_cons.mpr ⟨lw_p23, List.forall_mem_cons.mpr ⟨lw_p24, List.forall_mem_cons.mpr ⟨lw_p25, fun _ h => absurd h List.not_mem_nil⟩⟩⟩⟩⟩⟩⟩⟩⟩⟩
def lw_privs : List (MethodName × Nat) := lw_privs_1 ++ (lw_privs_2)
def lw_tbl : List Cond := k2_sels lw_privs ++ tables_1
theorem lw_privs_ok : ∀ q ∈ lw_privs, lw_okq q := by
  show ∀ q ∈ lw_privs_1 ++ (lw_privs_2), lw_okq q
  exact List.forall_mem_append.mpr ⟨lw_r1, lw_r2⟩
end
section
/-! Private methods of the type above Train and Platform, on receivers of these two: the words by which a call selects them follow from others. -/
theorem pm_sel {C : String} {x0 y0 y : MethodName} {s : State} {args : Array Value} (h0 : (Cond.selects C x0 y0).before args s = true) (hc : y0.cls = y.cls) (hy : y.cls ≠ "java/lang/invoke/MethodHandle" ∧ y.cls ≠ "java/lang/invoke/VarHandle") (hp : (Cond.privateMethod y).before args s = true) (hi : (Cond.instanceMethod y).before args s = true) : (Cond.selects C y y).before args s = true := by
  obtain ⟨mk, me, hn, hm, -, -⟩ := Cond.instanceMethod_spec hi
  obtain ⟨cc, rr, mm, e1, -, e3, -, kk, e5, e6⟩ := Cond.selects_spec h0
  have hf := State.methodFound?_of_named hn hy
  have hs : selectMethod {} s.vm cc mk = .method mk := selectMethod_private hm (Cond.privateMethod_at hp mk me hn hm)
  have hmc : mk.cls = mm.cls := by
    have h1 := findClass_of_methodNamed hn
    have h2 := findClass_of_methodNamed e3
    rw [hc, h1] at h2
    exact Option.some.inj h2
  simp only [Cond.before, Cond.holds, Cond.value, e1, hf, hn, hs, hmc, e5]
  simp
  exact e6
def pm_pv : List MethodName := [⟨"PlatformDoors$Side", "changeState", "()V"⟩, ⟨"PlatformDoors$Side", "send", "()V"⟩, ⟨"PlatformDoors$Side", "isolatedBits", "()I"⟩]
def pm_w2 : List Cond := pm_pv.map (fun y => Cond.selects "PlatformDoors$Train" y y) ++ pm_pv.map (fun y => Cond.selects "PlatformDoors$Platform" y y)
def pm_tb : List Cond := pm_w2 ++ lw_tbl
def pm_sadv : MethodName := ⟨"PlatformDoors$Side", "advance", "()V"⟩
theorem pm_pv_ok : ∀ y ∈ pm_pv, y.cls = "PlatformDoors$Side" ∧ Cond.privateMethod y ∈ lw_tbl ∧ Cond.instanceMethod y ∈ lw_tbl := by decide +kernel
theorem pm_sadv_ok : Cond.selects "PlatformDoors$Train" pm_sadv pm_sadv ∈ lw_tbl ∧ Cond.selects "PlatformDoors$Platform" pm_sadv pm_sadv ∈ lw_tbl := by decide +kernel
theorem pm_tb_of {s : State} {args : Array Value} (h : ∀ w ∈ lw_tbl, w.before args s = true) : ∀ w ∈ pm_tb, w.before args s = true := by
  intro w hw
  rcases List.mem_append.mp hw with hw | hw
  · rcases List.mem_append.mp hw with hw | hw
    · obtain ⟨y, hy, rfl⟩ := List.mem_map.mp hw
      obtain ⟨h1, h2, h3⟩ := pm_pv_ok y hy
      exact pm_sel (h _ pm_sadv_ok.1) h1.symm (by rw [h1]; exact ⟨by decide, by decide⟩) (h _ h2) (h _ h3)
    · obtain ⟨y, hy, rfl⟩ := List.mem_map.mp hw
      obtain ⟨h1, h2, h3⟩ := pm_pv_ok y hy
      exact pm_sel (h _ pm_sadv_ok.2) h1.symm (by rw [h1]; exact ⟨by decide, by decide⟩) (h _ h2) (h _ h3)
  · exact h w hw
end
section
/-! A small machine of my own over PLACES (see NOTES.md, section H): ints, booleans and references in a memory of places; one step in the style of continuations, so that a branch on a number that isn't known stands outside. Nothing here speaks of the model; part 12 shows that what this machine does, the model does. -/
abbrev pm_V : Type := Int32 ⊕ (Bool ⊕ (Option Nat ⊕ Unit))
abbrev pm_S : Type := Nat × (Nat → Nat → Int32) × (Nat → Nat → Bool) × (Nat → Nat → Option Nat)
abbrev pm_Rs : Type := Option pm_V × pm_S
abbrev pm_Lv : Type := List (Nat × pm_V)
abbrev pm_Row : Type := Nat × Jvm.ClassFile.Instr × Nat × List Nat
abbrev pm_Cd : Type := List (List pm_Row)
abbrev pm_Kd : Type := Nat ⊕ (Nat × Nat)
abbrev pm_Sc : Type := Nat × (Nat → Int32)
def pm_up {α : Type} (x : Nat → Nat → α) (k j : Nat) (v : α) : Nat → Nat → α := fun a b => bif Nat.beq a k && Nat.beq b j then v else x a b
def pm_fz {α : Type} (x : Nat → Nat → α) (k : Nat) (v : α) : Nat → Nat → α := fun a b => bif Nat.beq a k then v else x a b
def pm_lget : pm_Lv → Nat → Option pm_V
  | [], _ => none
  | (k, v) :: t, i => bif Nat.beq k i then some v else pm_lget t i
def pm_ldel : pm_Lv → Nat → pm_Lv
  | [], _ => []
  | (k, v) :: t, i => bif Nat.beq k i then pm_ldel t i else (k, v) :: pm_ldel t i
def pm_lset (lv : pm_Lv) (i : Nat) (v : pm_V) : pm_Lv := (i, v) :: pm_ldel lv i
def pm_look : List pm_Row → Nat → Option (Jvm.ClassFile.Instr × Nat × List Nat)
  | [], _ => none
  | (k, a) :: t, n => bif Nat.beq k n then some a else pm_look t n
def pm_find (cd : pm_Cd) (pc : Nat) : Option (Jvm.ClassFile.Instr × Nat × List Nat) := pm_look (cd.getD (pc / 16) []) pc
/-- what each place is: an object's kind by number, or a kind of array (0 int, 1 boolean, 2 Frame, 3 Leaf) and its length; in the order of making -/
def pm_kds : List (List pm_Kd) := [
  [.inl 0, .inl 3, .inr (2, 12), .inl 1, .inl 1, .inl 1, .inl 1, .inl 1],
  [.inl 1, .inl 1, .inl 1, .inl 1, .inl 1, .inl 1, .inl 1, .inl 3],
  [.inr (2, 12), .inl 1, .inl 1, .inl 1, .inl 1, .inl 1, .inl 1, .inl 1],
  [.inl 1, .inl 1, .inl 1, .inl 1, .inl 1, .inl 5, .inr (3, 8), .inl 1],
  [.inl 2, .inr (0, 2), .inl 2, .inr (0, 2), .inl 2, .inr (0, 2), .inl 2, .inr (0, 2)],
  [.inl 2, .inr (0, 2), .inl 2, .inr (0, 2), .inl 2, .inr (0, 2), .inl 2, .inr (0, 2)],
  [.inl 4, .inr (3, 8), .inl 1, .inl 2, .inr (0, 2), .inl 2, .inr (0, 2), .inl 2],
  [.inr (0, 2), .inl 2, .inr (0, 2), .inl 2, .inr (0, 2), .inl 2, .inr (0, 2), .inl 2],
  [.inr (0, 2), .inl 2, .inr (0, 2), .inl 6, .inr (0, 2), .inr (0, 2), .inr (0, 2), .inr (0, 2)],
  [.inr (1, 2), .inr (0, 12), .inr (0, 2), .inr (0, 144), .inr (0, 16), .inr (1, 16), .inr (1, 16), .inr (1, 16)],
  [.inr (1, 16), .inr (0, 16), .inr (0, 16), .inr (0, 16), .inr (0, 32)]]
def pm_kd (k : Nat) : Option pm_Kd := (pm_kds.getD (k / 8) [])[k % 8]?
/-- is i an index below len? -/
def pm_ib (i : Int32) (len : Nat) : Bool := !(decide (i < 0)) && Nat.blt i.toNatClampNeg len
/-- a switch from the case v on -/
def pm_sw {α : Type} (x : Int32) (kg : Nat → α) (dflt : Nat) : List Nat → Nat → α
  | [], _ => kg dflt
  | t :: ts, v => if x = Int32.ofNat v then kg t else pm_sw x kg dflt ts (v + 1)
def pm_pair : List Nat → Nat → Option Nat
  | a :: b :: t, i => bif Nat.beq a i then some b else pm_pair t i
  | _, _ => none
def pm_con : List Nat → Int32
  | [m, 0] => Int32.ofNat m
  | [m, _] => - Int32.ofNat m
  | _ => 0
section PMD
variable {α : Type} (c : Nat → List pm_V → pm_S → Option pm_Rs) (sc : pm_Sc) (rk : Nat)
def pm_br (cd : Jvm.ClassFile.Cond) (x : Int32) (a b : α) : α := match cd with
  | .eq => if x = 0 then a else b
  | .ne => if x = 0 then b else a
  | .lt => if x < 0 then a else b
  | .ge => if 0 ≤ x then a else b
  | .gt => if 0 < x then a else b
  | .le => if x ≤ 0 then a else b
def pm_br2 (cd : Jvm.ClassFile.Cond) (x y : Int32) (a b : α) : α := match cd with
  | .eq => if x = y then a else b
  | .ne => if x = y then b else a
  | .lt => if x < y then a else b
  | .ge => if y ≤ x then a else b
  | .gt => if y < x then a else b
  | .le => if x ≤ y then a else b
def pm_brb (cd : Jvm.ClassFile.Cond) (x : Bool) (a b kn : α) : α := match cd with
  | .eq => if x = true then b else a
  | .ne => if x = true then a else b
  | _ => kn
def pm_brb2 (cd : Jvm.ClassFile.Cond) (x y : Bool) (a b kn : α) : α := match cd with
  | .eq => if x = y then a else b
  | .ne => if x = y then b else a
  | _ => kn
/-- the kind of the object at a place that has been made -/
def pm_cls (n k : Nat) : Option Nat := bif Nat.blt k n then (match pm_kd k with | some (.inl ci) => some ci | _ => none) else none
/-- the kind of the array at a place that has been made -/
def pm_arr (n k : Nat) : Option (Nat × Nat) := bif Nat.blt k n then (match pm_kd k with | some (.inr a) => some a | _ => none) else none
def pm_call1 (kg : Option pm_V → pm_S → α) (kn : α) (r : Option pm_Rs) : α := match r with
  | some (v, u) => kg v u
  | none => kn
def pm_get (ty k j : Nat) (u : pm_S) : pm_V := match ty with
  | 0 => .inl (u.2.1 k j)
  | 1 => .inr (.inl (u.2.2.1 k j))
  | _ => .inr (.inr (.inl (u.2.2.2 k j)))
/-- a value into slot j of place k -/
def pm_put (ty k j : Nat) (v : pm_V) (u : pm_S) (kg : pm_S → α) (kn : α) : α := match ty, v with
  | 0, .inl x => kg (u.1, pm_up u.2.1 k j x, u.2.2.1, u.2.2.2)
  | 1, .inr (.inl b) => kg (u.1, u.2.1, pm_up u.2.2.1 k j b, u.2.2.2)
  | 1, .inl x => if x = 0 then kg (u.1, u.2.1, pm_up u.2.2.1 k j false, u.2.2.2) else if x = 1 then kg (u.1, u.2.1, pm_up u.2.2.1 k j true, u.2.2.2) else kn
  | 2, .inr (.inr (.inl (some q))) => kg (u.1, u.2.1, u.2.2.1, pm_up u.2.2.2 k j (some q))
  | _, _ => kn
def pm_iret (st : List pm_V) (u : pm_S) (kr : pm_Rs → α) (kn : α) : α := match rk, st with
  | 1, [.inl x] => kr (some (.inl x), u)
  | 2, [.inr (.inl b)] => kr (some (.inr (.inl b)), u)
  | 2, [.inl x] => if x = 0 then kr (some (.inr (.inl false)), u) else if x = 1 then kr (some (.inr (.inl true)), u) else kn
  | _, _ => kn
def pm_ld (v : Option pm_V) (kg : pm_V → α) (kn : α) : α := match v with
  | some (.inl x) => kg (.inl x)
  | some (.inr (.inl b)) => kg (.inr (.inl b))
  | _ => kn
def pm_la (v : Option pm_V) (kg : pm_V → α) (kn : α) : α := match v with
  | some (.inr (.inr q)) => kg (.inr (.inr q))
  | _ => kn
def pm_si (st : List pm_V) (kg : pm_V → List pm_V → α) (kn : α) : α := match st with
  | .inl x :: st => kg (.inl x) st
  | .inr (.inl b) :: st => kg (.inr (.inl b)) st
  | _ => kn
def pm_sa (st : List pm_V) (kg : pm_V → List pm_V → α) (kn : α) : α := match st with
  | .inr (.inr q) :: st => kg (.inr (.inr q)) st
  | _ => kn
def pm_op2 (st : List pm_V) (kg : Int32 → Int32 → List pm_V → α) (kn : α) : α := match st with
  | .inl y :: .inl x :: st => kg x y st
  | _ => kn
def pm_obj (n : Nat) (st : List pm_V) (kg : Nat → Nat → List pm_V → α) (kn : α) : α := match st with
  | .inr (.inr (.inl (some k))) :: st => (match pm_cls n k with | some ci => kg k ci st | none => kn)
  | _ => kn
/-- reads and writes of arrays: kind t0 -/
def pm_ald (t0 : Nat) (st : List pm_V) (u : pm_S) (kg : pm_V → List pm_V → α) (kn : α) : α := match st with
  | .inl i :: .inr (.inr (.inl (some k))) :: st => (match pm_arr u.1 k with
    | some (t, len) => bif (Nat.beq t t0 || (Nat.beq t0 2 && Nat.beq t 3)) && pm_ib i len then kg (pm_get t0 k i.toNatClampNeg u) st else kn
    | none => kn)
  | .inl i :: .inr (.inr (.inr _)) :: st => bif Nat.beq t0 0 && pm_ib i sc.1 then kg (.inl (sc.2 i.toNatClampNeg)) st else kn
  | _ => kn
def pm_ast (t0 : Nat) (st : List pm_V) (u : pm_S) (kg : List pm_V → pm_S → α) (kn : α) : α := match st with
  | v :: .inl i :: .inr (.inr (.inl (some k))) :: st => (match pm_arr u.1 k with
    | some (t, len) => bif Nat.beq t t0 && pm_ib i len then pm_put t0 k i.toNatClampNeg v u (fun u => kg st u) kn else kn
    | none => kn)
  | _ => kn
def pm_asta (st : List pm_V) (u : pm_S) (kg : List pm_V → pm_S → α) (kn : α) : α := match st with
  | .inr (.inr (.inl (some q))) :: .inl i :: .inr (.inr (.inl (some k))) :: st => (match pm_arr u.1 k, pm_cls u.1 q with
    | some (t, len), some ci => bif ((Nat.beq t 2 && Nat.beq ci 1) || (Nat.beq t 3 && Nat.beq ci 2)) && pm_ib i len then kg st (u.1, u.2.1, u.2.2.1, pm_up u.2.2.2 k i.toNatClampNeg (some q)) else kn
    | _, _ => kn)
  | _ => kn
/-- a new place n, all zero -/
def pm_made (u : pm_S) : pm_S := (u.1 + 1, pm_fz u.2.1 u.1 0, pm_fz u.2.2.1 u.1 false, pm_fz u.2.2.2 u.1 none)
def pm_new (d : pm_Kd) (st : List pm_V) (u : pm_S) (kg : List pm_V → pm_S → α) (kn : α) : α := match pm_kd u.1, d with
  | some (.inl a), .inl b => bif Nat.beq a b then kg (.inr (.inr (.inl (some u.1))) :: st) (pm_made u) else kn
  | some (.inr (a, x)), .inr (b, y) => bif Nat.beq a b && Nat.beq x y then kg (.inr (.inr (.inl (some u.1))) :: st) (pm_made u) else kn
  | _, _ => kn
/-- below a call's arguments the stack is short -/
def pm_gd (st : List pm_V) (a kn : α) : α := bif Nat.ble st.length 8 then a else kn
/-- the arguments off the stack: the last is on top -/
def pm_pop : Nat → List pm_V → List pm_V → Option (List pm_V × List pm_V)
  | 0, as, st => some (as, st)
  | n + 1, as, v :: st => pm_pop n (v :: as) st
  | _ + 1, _, [] => none
def pm_do (ins : Jvm.ClassFile.Instr) (nx : Nat) (ax : List Nat) (lv : pm_Lv) (st : List pm_V) (u : pm_S) (kg : Nat → pm_Lv → List pm_V → pm_S → α) (kr : pm_Rs → α) (kn : α) : α := match ins with
  | .iconst n => kg nx lv (.inl (Int32.ofInt n) :: st) u
  | .bipush n => kg nx lv (.inl (Int32.ofInt n) :: st) u
  | .sipush n => kg nx lv (.inl (Int32.ofInt n) :: st) u
  | .ldc _ => kg nx lv (.inl (pm_con ax) :: st) u
  | .iload_n k => pm_ld (pm_lget lv k.val) (fun v => kg nx lv (v :: st) u) kn
  | .iload i => pm_ld (pm_lget lv i) (fun v => kg nx lv (v :: st) u) kn
  | .aload_n k => pm_la (pm_lget lv k.val) (fun v => kg nx lv (v :: st) u) kn
  | .aload i => pm_la (pm_lget lv i) (fun v => kg nx lv (v :: st) u) kn
  | .istore_n k => pm_si st (fun v st => kg nx (pm_lset lv k.val v) st u) kn
  | .istore i => pm_si st (fun v st => kg nx (pm_lset lv i v) st u) kn
  | .astore_n k => pm_sa st (fun v st => kg nx (pm_lset lv k.val v) st u) kn
  | .astore i => pm_sa st (fun v st => kg nx (pm_lset lv i v) st u) kn
  | .iinc i n => (match pm_lget lv i with | some (.inl x) => kg nx (pm_lset lv i (.inl (x + Int32.ofInt n))) st u | _ => kn)
  | .iadd => pm_op2 st (fun x y st => kg nx lv (.inl (x + y) :: st) u) kn
  | .isub => pm_op2 st (fun x y st => kg nx lv (.inl (x - y) :: st) u) kn
  | .imul => pm_op2 st (fun x y st => kg nx lv (.inl (x * y) :: st) u) kn
  | .iand => pm_op2 st (fun x y st => kg nx lv (.inl (x &&& y) :: st) u) kn
  | .ior => pm_op2 st (fun x y st => kg nx lv (.inl (x ||| y) :: st) u) kn
  | .ishl => pm_op2 st (fun x y st => kg nx lv (.inl (x <<< (y &&& 31)) :: st) u) kn
  | .ishr => pm_op2 st (fun x y st => kg nx lv (.inl (x >>> (y &&& 31)) :: st) u) kn
  | .idiv => pm_op2 st (fun x y st => if y = 0 then kn else kg nx lv (.inl (x / y) :: st) u) kn
  | .irem => pm_op2 st (fun x y st => if y = 0 then kn else kg nx lv (.inl (x - x / y * y) :: st) u) kn
  | .dup => (match st with | v :: st => kg nx lv (v :: v :: st) u | _ => kn)
  | .dup2 => (match st with | v :: w :: st => kg nx lv (v :: w :: v :: w :: st) u | _ => kn)
  | .ifCond cd _ => (match st with | .inl x :: st => pm_br cd x (kg (ax.headD 0) lv st u) (kg nx lv st u) | .inr (.inl b) :: st => pm_brb cd b (kg (ax.headD 0) lv st u) (kg nx lv st u) kn | _ => kn)
  | .if_icmp cd _ => (match st with | .inl y :: .inl x :: st => pm_br2 cd x y (kg (ax.headD 0) lv st u) (kg nx lv st u) | .inr (.inl y) :: .inr (.inl x) :: st => pm_brb2 cd x y (kg (ax.headD 0) lv st u) (kg nx lv st u) kn | _ => kn)
  | .goto _ => kg (ax.headD 0) lv st u
  | .getfield _ => (match ax with | j :: ty :: cis => pm_obj u.1 st (fun k ci st => bif cis.any (Nat.beq ci) then kg nx lv (pm_get ty k j u :: st) u else kn) kn | _ => kn)
  | .putfield _ => (match ax, st with | j :: ty :: _ :: cis, v :: st => pm_obj u.1 st (fun k ci st => bif cis.any (Nat.beq ci) then pm_put ty k j v u (fun u => kg nx lv st u) kn else kn) kn | _, _ => kn)
  | .iaload => pm_ald sc 0 st u (fun v st => kg nx lv (v :: st) u) kn
  | .baload => pm_ald sc 1 st u (fun v st => kg nx lv (v :: st) u) kn
  | .aaload => pm_ald sc 2 st u (fun v st => kg nx lv (v :: st) u) kn
  | .iastore => pm_ast 0 st u (fun st u => kg nx lv st u) kn
  | .bastore => pm_ast 1 st u (fun st u => kg nx lv st u) kn
  | .aastore => pm_asta st u (fun st u => kg nx lv st u) kn
  | .arraylength => (match st with | .inr (.inr (.inr _)) :: st => kg nx lv (.inl (Int32.ofNat sc.1) :: st) u | _ => kn)
  | .new _ => (match ax with | ci :: _ => pm_new (.inl ci) st u (fun st u => kg nx lv st u) kn | _ => kn)
  | .newarray a => (match ax, st with | [t], .inl i :: st => bif !(decide (i < 0)) then pm_new (.inr (t, i.toNatClampNeg)) st u (fun st u => kg nx lv st u) kn else kn | _, _ => kn)
  | .anewarray _ => (match ax, st with | [t], .inl i :: st => bif !(decide (i < 0)) then pm_new (.inr (t, i.toNatClampNeg)) st u (fun st u => kg nx lv st u) kn else kn | _, _ => kn)
  | .invokevirtual _ => (match ax with
    | na :: _ :: ps => (match pm_pop na [] st with
      | some (as, st) => pm_obj u.1 st (fun k ci st => match pm_pair ps ci with
        | some mi => pm_gd st (pm_call1 (fun v u => kg nx lv (v.toList ++ st) u) kn (c mi (.inr (.inr (.inl (some k))) :: as) u)) kn
        | none => kn) kn
      | none => kn)
    | _ => kn)
  | .invokespecial _ => (match ax with
    | [] => (match st with | .inr (.inr (.inl (some _))) :: st => pm_gd st (kg nx lv st u) kn | _ => kn)
    | na :: mi :: _ => (match pm_pop na [] st with
      | some (as, .inr (.inr (.inl (some k))) :: st) => pm_gd st (pm_call1 (fun v u => kg nx lv (v.toList ++ st) u) kn (c mi (.inr (.inr (.inl (some k))) :: as) u)) kn
      | _ => kn)
    | _ => kn)
  | .invokestatic _ => (match ax with
    | [0] => pm_op2 st (fun x y st => pm_gd st (kg nx lv (.inl (if x < y then y else x) :: st) u) kn) kn
    | [1] => pm_op2 st (fun x y st => pm_gd st (kg nx lv (.inl (if y < x then y else x) :: st) u) kn) kn
    | na :: mi :: _ => (match pm_pop na [] st with
      | some (as, st) => pm_gd st (pm_call1 (fun v u => kg nx lv (v.toList ++ st) u) kn (c mi as u)) kn
      | none => kn)
    | _ => kn)
  | .tableswitch _ _ _ _ => (match ax, st with | d :: ts, .inl x :: st => pm_sw x (fun pc => kg pc lv st u) d ts 0 | _, _ => kn)
  | .ireturn => pm_iret rk st u kr kn
  | .areturn => (match rk, st with | 3, [.inr (.inr (.inl q))] => kr (some (.inr (.inr (.inl q))), u) | _, _ => kn)
  | .return_ => (match rk, st with | 0, [] => kr (none, u) | _, _ => kn)
  | _ => kn
def pm_stp (cd : pm_Cd) (pc : Nat) (lv : pm_Lv) (st : List pm_V) (u : pm_S) (kg : Nat → pm_Lv → List pm_V → pm_S → α) (kr : pm_Rs → α) (kn : α) : α := match pm_find cd pc with
  | some (ins, nx, ax) => pm_do c sc rk ins nx ax lv st u kg kr kn
  | none => kn
/-- up to k steps, stopping at pcs that 'cut' names -/
def pm_iter (cd : pm_Cd) (cut : List Nat) : Nat → Nat → pm_Lv → List pm_V → pm_S → (Nat → pm_Lv → List pm_V → pm_S → α) → (pm_Rs → α) → α → α
  | 0, pc, lv, st, u, kg, _, _ => kg pc lv st u
  | k + 1, pc, lv, st, u, kg, kr, kn => pm_stp c sc rk cd pc lv st u (fun pc lv st u => bif cut.any (Nat.beq pc) then kg pc lv st u else pm_iter cd cut k pc lv st u kg kr kn) kr kn
end PMD
abbrev pm_St : Type := Nat × pm_Lv × List pm_V × pm_S
end
section
section PMR
variable {α β : Type} {R : α → β → Prop}
theorem pm_ite_rel {p : Prop} {hd : Decidable p} {a b : α} {a' b' : β} (ha : R a a') (hb : R b b') : R (@ite α p hd a b) (@ite β p hd a' b') := by
  by_cases h : p
  · rw [if_pos h, if_pos h]; exact ha
  · rw [if_neg h, if_neg h]; exact hb
theorem pm_bif_rel {x : Bool} {a b : α} {a' b' : β} (ha : R a a') (hb : R b b') : R (bif x then a else b) (bif x then a' else b') := by
  cases x
  · exact hb
  · exact ha
theorem pm_br_rel {cd : Jvm.ClassFile.Cond} {x : Int32} {a b : α} {a' b' : β} (ha : R a a') (hb : R b b') : R (pm_br cd x a b) (pm_br cd x a' b') := by
  cases cd <;> first | exact pm_ite_rel ha hb | exact pm_ite_rel hb ha
theorem pm_br2_rel {cd : Jvm.ClassFile.Cond} {x y : Int32} {a b : α} {a' b' : β} (ha : R a a') (hb : R b b') : R (pm_br2 cd x y a b) (pm_br2 cd x y a' b') := by
  cases cd <;> first | exact pm_ite_rel ha hb | exact pm_ite_rel hb ha
theorem pm_brb_rel {cd : Jvm.ClassFile.Cond} {x : Bool} {a b d : α} {a' b' d' : β} (ha : R a a') (hb : R b b') (hn : R d d') : R (pm_brb cd x a b d) (pm_brb cd x a' b' d') := by
  cases cd <;> first | exact pm_ite_rel ha hb | exact pm_ite_rel hb ha | exact hn
theorem pm_brb2_rel {cd : Jvm.ClassFile.Cond} {x y : Bool} {a b d : α} {a' b' d' : β} (ha : R a a') (hb : R b b') (hn : R d d') : R (pm_brb2 cd x y a b d) (pm_brb2 cd x y a' b' d') := by
  cases cd <;> first | exact pm_ite_rel ha hb | exact pm_ite_rel hb ha | exact hn
theorem pm_sw_rel {x : Int32} {kg : Nat → α} {kg' : Nat → β} (h : ∀ pc, R (kg pc) (kg' pc)) (d : Nat) : ∀ (ts : List Nat) (v : Nat), R (pm_sw x kg d ts v) (pm_sw x kg' d ts v)
  | [], _ => h d
  | t :: ts, v => pm_ite_rel (h t) (pm_sw_rel h d ts (v + 1))
theorem pm_call1_rel {kg : Option pm_V → pm_S → α} {kg' : Option pm_V → pm_S → β} {kn : α} {kn' : β} {r : Option pm_Rs} (h : ∀ v u, R (kg v u) (kg' v u)) (hn : R kn kn') : R (pm_call1 kg kn r) (pm_call1 kg' kn' r) := by
  rcases r with _ | ⟨v, u⟩
  · exact hn
  · exact h v u
theorem pm_put_rel {ty k j : Nat} {v : pm_V} {u : pm_S} {kg : pm_S → α} {kg' : pm_S → β} {kn : α} {kn' : β} (h : ∀ u, R (kg u) (kg' u)) (hn : R kn kn') : R (pm_put ty k j v u kg kn) (pm_put ty k j v u kg' kn') := by
  rcases ty with _ | _ | _ | ty <;> rcases v with x | b | (_ | q) | _ <;> first | exact hn | exact h _ | exact pm_ite_rel (h _) (pm_ite_rel (h _) hn)
theorem pm_iret_rel {rk : Nat} {st : List pm_V} {u : pm_S} {kr : pm_Rs → α} {kr' : pm_Rs → β} {kn : α} {kn' : β} (h : ∀ r, R (kr r) (kr' r)) (hn : R kn kn') : R (pm_iret rk st u kr kn) (pm_iret rk st u kr' kn') := by
  rcases rk with _ | _ | _ | rk <;> rcases st with _ | ⟨x | b | (_ | q) | _, _ | ⟨v2, st⟩⟩ <;> first | exact hn | exact h _ | exact pm_ite_rel (h _) (pm_ite_rel (h _) hn)
theorem pm_ld_rel {v : Option pm_V} {kg : pm_V → α} {kg' : pm_V → β} {kn : α} {kn' : β} (h : ∀ v, R (kg v) (kg' v)) (hn : R kn kn') : R (pm_ld v kg kn) (pm_ld v kg' kn') := by
  rcases v with _ | x | b | q <;> first | exact hn | exact h _
theorem pm_la_rel {v : Option pm_V} {kg : pm_V → α} {kg' : pm_V → β} {kn : α} {kn' : β} (h : ∀ v, R (kg v) (kg' v)) (hn : R kn kn') : R (pm_la v kg kn) (pm_la v kg' kn') := by
  rcases v with _ | x | b | q <;> first | exact hn | exact h _
theorem pm_si_rel {st : List pm_V} {kg : pm_V → List pm_V → α} {kg' : pm_V → List pm_V → β} {kn : α} {kn' : β} (h : ∀ v st, R (kg v st) (kg' v st)) (hn : R kn kn') : R (pm_si st kg kn) (pm_si st kg' kn') := by
  rcases st with _ | ⟨x | b | q, st⟩ <;> first | exact hn | exact h _ _
theorem pm_sa_rel {st : List pm_V} {kg : pm_V → List pm_V → α} {kg' : pm_V → List pm_V → β} {kn : α} {kn' : β} (h : ∀ v st, R (kg v st) (kg' v st)) (hn : R kn kn') : R (pm_sa st kg kn) (pm_sa st kg' kn') := by
  rcases st with _ | ⟨x | b | q, st⟩ <;> first | exact hn | exact h _ _
theorem pm_op2_rel {st : List pm_V} {kg : Int32 → Int32 → List pm_V → α} {kg' : Int32 → Int32 → List pm_V → β} {kn : α} {kn' : β} (h : ∀ x y st, R (kg x y st) (kg' x y st)) (hn : R kn kn') : R (pm_op2 st kg kn) (pm_op2 st kg' kn') := by
  rcases st with _ | ⟨y | b, _ | ⟨x | b2, st⟩⟩ <;> first | exact hn | exact h _ _ _
theorem pm_obj_rel {n : Nat} {st : List pm_V} {kg : Nat → Nat → List pm_V → α} {kg' : Nat → Nat → List pm_V → β} {kn : α} {kn' : β} (h : ∀ k ci st, R (kg k ci st) (kg' k ci st)) (hn : R kn kn') : R (pm_obj n st kg kn) (pm_obj n st kg' kn') := by
  rcases st with _ | ⟨x | b | (_ | k) | z, st⟩
  · exact hn
  · exact hn
  · exact hn
  · exact hn
  · show R (match pm_cls n k with | some ci => kg k ci st | none => kn) (match pm_cls n k with | some ci => kg' k ci st | none => kn')
    cases pm_cls n k with
    | none => exact hn
    | some ci => exact h _ _ _
  · exact hn
theorem pm_ald_rel {sc : pm_Sc} {t0 : Nat} {st : List pm_V} {u : pm_S} {kg : pm_V → List pm_V → α} {kg' : pm_V → List pm_V → β} {kn : α} {kn' : β} (h : ∀ v st, R (kg v st) (kg' v st)) (hn : R kn kn') : R (pm_ald sc t0 st u kg kn) (pm_ald sc t0 st u kg' kn') := by
  rcases st with _ | ⟨i | v, _ | ⟨x | b | (_ | k) | z, st⟩⟩ <;> first | exact hn | exact pm_bif_rel (h _ _) hn | skip
  show R (match pm_arr u.1 k with | some (t, len) => _ | none => kn) (match pm_arr u.1 k with | some (t, len) => _ | none => kn')
  rcases pm_arr u.1 k with _ | ⟨t, len⟩
  · exact hn
  · exact pm_bif_rel (h _ _) hn
theorem pm_ast_rel {t0 : Nat} {st : List pm_V} {u : pm_S} {kg : List pm_V → pm_S → α} {kg' : List pm_V → pm_S → β} {kn : α} {kn' : β} (h : ∀ st u, R (kg st u) (kg' st u)) (hn : R kn kn') : R (pm_ast t0 st u kg kn) (pm_ast t0 st u kg' kn') := by
  rcases st with _ | ⟨v, _ | ⟨i | i, _ | ⟨x | b | (_ | k) | z, st⟩⟩⟩ <;> first | exact hn | skip
  show R (match pm_arr u.1 k with | some (t, len) => _ | none => kn) (match pm_arr u.1 k with | some (t, len) => _ | none => kn')
  rcases pm_arr u.1 k with _ | ⟨t, len⟩
  · exact hn
  · exact pm_bif_rel (pm_put_rel (fun u => h _ u) hn) hn
theorem pm_asta_rel {st : List pm_V} {u : pm_S} {kg : List pm_V → pm_S → α} {kg' : List pm_V → pm_S → β} {kn : α} {kn' : β} (h : ∀ st u, R (kg st u) (kg' st u)) (hn : R kn kn') : R (pm_asta st u kg kn) (pm_asta st u kg' kn') := by
  rcases st with _ | ⟨y | d | (_ | q) | w, _ | ⟨i | i, _ | ⟨x | b | (_ | k) | z, st⟩⟩⟩ <;> first | exact hn | skip
  show R (match pm_arr u.1 k, pm_cls u.1 q with | some (t, len), some ci => _ | _, _ => kn) (match pm_arr u.1 k, pm_cls u.1 q with | some (t, len), some ci => _ | _, _ => kn')
  rcases pm_arr u.1 k with _ | ⟨t, len⟩ <;> rcases pm_cls u.1 q with _ | ci <;> first | exact hn | exact pm_bif_rel (h _ _) hn
theorem pm_new_rel {d : pm_Kd} {st : List pm_V} {u : pm_S} {kg : List pm_V → pm_S → α} {kg' : List pm_V → pm_S → β} {kn : α} {kn' : β} (h : ∀ st u, R (kg st u) (kg' st u)) (hn : R kn kn') : R (pm_new d st u kg kn) (pm_new d st u kg' kn') := by
  unfold pm_new
  rcases pm_kd u.1 with _ | a | ⟨a, x⟩ <;> rcases d with b | ⟨b, y⟩ <;> first | exact hn | exact pm_bif_rel (h _ _) hn
variable {c : Nat → List pm_V → pm_S → Option pm_Rs} {sc : pm_Sc} {rk : Nat}
/-- two runs of one step, with continuations that stand in R, stand in R -/
theorem pm_do_rel {ins : Jvm.ClassFile.Instr} {nx : Nat} {ax : List Nat} {lv : pm_Lv} {st : List pm_V} {u : pm_S} {kg : Nat → pm_Lv → List pm_V → pm_S → α} {kg' : Nat → pm_Lv → List pm_V → pm_S → β} {kr : pm_Rs → α} {kr' : pm_Rs → β} {kn : α} {kn' : β}
    (h : ∀ pc lv st u, R (kg pc lv st u) (kg' pc lv st u)) (hr : ∀ r, R (kr r) (kr' r)) (hn : R kn kn') : R (pm_do c sc rk ins nx ax lv st u kg kr kn) (pm_do c sc rk ins nx ax lv st u kg' kr' kn') := by
  cases ins
  case iload_n k => (simp only [pm_do]; exact pm_ld_rel (fun _ => h _ _ _ _) hn)
  case iload k => (simp only [pm_do]; exact pm_ld_rel (fun _ => h _ _ _ _) hn)
  case aload_n k => (simp only [pm_do]; exact pm_la_rel (fun _ => h _ _ _ _) hn)
  case aload k => (simp only [pm_do]; exact pm_la_rel (fun _ => h _ _ _ _) hn)
  case istore_n k => (simp only [pm_do]; exact pm_si_rel (fun _ _ => h _ _ _ _) hn)
  case istore k => (simp only [pm_do]; exact pm_si_rel (fun _ _ => h _ _ _ _) hn)
  case astore_n k => (simp only [pm_do]; exact pm_sa_rel (fun _ _ => h _ _ _ _) hn)
  case astore k => (simp only [pm_do]; exact pm_sa_rel (fun _ _ => h _ _ _ _) hn)
  case iinc i n =>
    show R (match pm_lget lv i with | some (.inl x) => kg nx (pm_lset lv i (.inl (x + Int32.ofInt n))) st u | _ => kn) (match pm_lget lv i with | some (.inl x) => kg' nx (pm_lset lv i (.inl (x + Int32.ofInt n))) st u | _ => kn')
    rcases pm_lget lv i with _ | x | b <;> first | exact hn | exact h _ _ _ _
  case iadd => exact pm_op2_rel (fun _ _ _ => h _ _ _ _) hn
  case isub => exact pm_op2_rel (fun _ _ _ => h _ _ _ _) hn
  case imul => exact pm_op2_rel (fun _ _ _ => h _ _ _ _) hn
  case iand => exact pm_op2_rel (fun _ _ _ => h _ _ _ _) hn
  case ior => exact pm_op2_rel (fun _ _ _ => h _ _ _ _) hn
  case ishl => exact pm_op2_rel (fun _ _ _ => h _ _ _ _) hn
  case ishr => exact pm_op2_rel (fun _ _ _ => h _ _ _ _) hn
  case idiv => exact pm_op2_rel (fun _ _ _ => pm_ite_rel hn (h _ _ _ _)) hn
  case irem => exact pm_op2_rel (fun _ _ _ => pm_ite_rel hn (h _ _ _ _)) hn
  case dup => rcases st with _ | ⟨v, st⟩ <;> first | exact hn | exact h _ _ _ _
  case dup2 => rcases st with _ | ⟨v, _ | ⟨w, st⟩⟩ <;> first | exact hn | exact h _ _ _ _
  case ifCond cd off => rcases st with _ | ⟨x | b | q, st⟩ <;> first | exact hn | exact pm_br_rel (h _ _ _ _) (h _ _ _ _) | exact pm_brb_rel (h _ _ _ _) (h _ _ _ _) hn
  case if_icmp cd off => rcases st with _ | ⟨y | y | q, _ | ⟨x | x | q2, st⟩⟩ <;> first | exact hn | exact pm_br2_rel (h _ _ _ _) (h _ _ _ _) | exact pm_brb2_rel (h _ _ _ _) (h _ _ _ _) hn
  case getfield i => rcases ax with _ | ⟨j, _ | ⟨ty, cis⟩⟩ <;> first | exact hn | exact pm_obj_rel (fun _ _ _ => pm_bif_rel (h _ _ _ _) hn) hn
  case putfield i => rcases ax with _ | ⟨j, _ | ⟨ty, _ | ⟨fi, cis⟩⟩⟩ <;> rcases st with _ | ⟨v, st⟩ <;> first | exact hn | exact pm_obj_rel (fun _ _ _ => pm_bif_rel (pm_put_rel (fun _ => h _ _ _ _) hn) hn) hn
  case iaload => exact pm_ald_rel (fun _ _ => h _ _ _ _) hn
  case baload => exact pm_ald_rel (fun _ _ => h _ _ _ _) hn
  case aaload => exact pm_ald_rel (fun _ _ => h _ _ _ _) hn
  case iastore => exact pm_ast_rel (fun _ _ => h _ _ _ _) hn
  case bastore => exact pm_ast_rel (fun _ _ => h _ _ _ _) hn
  case aastore => exact pm_asta_rel (fun _ _ => h _ _ _ _) hn
  case arraylength => rcases st with _ | ⟨x | b | q | z, st⟩ <;> first | exact hn | exact h _ _ _ _
  case new i => rcases ax with _ | ⟨ci, ax⟩ <;> first | exact hn | exact pm_new_rel (fun _ _ => h _ _ _ _) hn
  case newarray a => rcases ax with _ | ⟨t, _ | ⟨t2, ax⟩⟩ <;> rcases st with _ | ⟨x | b, st⟩ <;> first | exact hn | exact pm_bif_rel (pm_new_rel (fun _ _ => h _ _ _ _) hn) hn
  case anewarray a => rcases ax with _ | ⟨t, _ | ⟨t2, ax⟩⟩ <;> rcases st with _ | ⟨x | b, st⟩ <;> first | exact hn | exact pm_bif_rel (pm_new_rel (fun _ _ => h _ _ _ _) hn) hn
  case invokevirtual i =>
    rcases ax with _ | ⟨na, _ | ⟨xn, ps⟩⟩ <;> first | exact hn | skip
    show R (match pm_pop na [] st with | some (as, st) => _ | none => kn) (match pm_pop na [] st with | some (as, st) => _ | none => kn')
    rcases pm_pop na [] st with _ | ⟨as, st⟩
    · exact hn
    · refine pm_obj_rel (fun k ci st => ?_) hn
      show R (match pm_pair ps ci with | some mi => _ | none => kn) (match pm_pair ps ci with | some mi => _ | none => kn')
      rcases pm_pair ps ci with _ | mi
      · exact hn
      · exact pm_bif_rel (pm_call1_rel (fun _ _ => h _ _ _ _) hn) hn
  case invokespecial i =>
    rcases ax with _ | ⟨na, _ | ⟨mi, ax⟩⟩
    · rcases st with _ | ⟨x | b | (_ | k) | z, st⟩ <;> first | exact hn | exact pm_bif_rel (h _ _ _ _) hn
    · exact hn
    · show R (match pm_pop na [] st with | some (as, .inr (.inr (.inl (some k))) :: st) => _ | _ => kn) (match pm_pop na [] st with | some (as, .inr (.inr (.inl (some k))) :: st) => _ | _ => kn')
      rcases pm_pop na [] st with _ | ⟨as, _ | ⟨x | b | (_ | k) | z, st⟩⟩ <;> first | exact hn | exact pm_bif_rel (pm_call1_rel (fun _ _ => h _ _ _ _) hn) hn
  case invokestatic i =>
    rcases ax with _ | ⟨na, _ | ⟨mi, ax⟩⟩
    · exact hn
    · rcases na with _ | _ | na <;> first | exact hn | exact pm_op2_rel (fun _ _ _ => pm_bif_rel (h _ _ _ _) hn) hn
    · have key : R (match pm_pop na [] st with | some (as, st) => pm_gd st (pm_call1 (fun v u => kg nx lv (v.toList ++ st) u) kn (c mi as u)) kn | none => kn) (match pm_pop na [] st with | some (as, st) => pm_gd st (pm_call1 (fun v u => kg' nx lv (v.toList ++ st) u) kn' (c mi as u)) kn' | none => kn') := by
        rcases pm_pop na [] st with _ | ⟨as, st⟩
        · exact hn
        · exact pm_bif_rel (pm_call1_rel (fun _ _ => h _ _ _ _) hn) hn
      rcases na with _ | _ | na <;> exact key
  case tableswitch d lo hi offs => rcases ax with _ | ⟨d, ts⟩ <;> rcases st with _ | ⟨x | b, st⟩ <;> first | exact hn | exact pm_sw_rel (fun _ => h _ _ _ _) _ _ _
  case ireturn => exact pm_iret_rel hr hn
  case areturn => rcases rk with _ | _ | _ | _ | rk <;> rcases st with _ | ⟨x | b | q | z, _ | ⟨v2, st⟩⟩ <;> first | exact hn | exact hr _
  case return_ => rcases rk with _ | rk <;> rcases st with _ | ⟨x, st⟩ <;> first | exact hn | exact hr _
  all_goals first | exact h _ _ _ _ | exact hn
theorem pm_stp_rel {cd : pm_Cd} {pc : Nat} {lv : pm_Lv} {st : List pm_V} {u : pm_S} {kg : Nat → pm_Lv → List pm_V → pm_S → α} {kg' : Nat → pm_Lv → List pm_V → pm_S → β} {kr : pm_Rs → α} {kr' : pm_Rs → β} {kn : α} {kn' : β}
    (h : ∀ pc lv st u, R (kg pc lv st u) (kg' pc lv st u)) (hr : ∀ r, R (kr r) (kr' r)) (hn : R kn kn') : R (pm_stp c sc rk cd pc lv st u kg kr kn) (pm_stp c sc rk cd pc lv st u kg' kr' kn') := by
  unfold pm_stp
  rcases pm_find cd pc with _ | ⟨ins, nx, ax⟩
  · exact hn
  · exact pm_do_rel h hr hn
end PMR
section PME
variable (c : Nat → List pm_V → pm_S → Option pm_Rs) (sc : pm_Sc) (rk : Nat) (cd : pm_Cd)
def pm_loop : Nat → Nat → pm_Lv → List pm_V → pm_S → Option pm_Rs
  | 0, _, _, _, _ => none
  | f + 1, pc, lv, st, u => pm_stp c sc rk cd pc lv st u (pm_loop f) some none
noncomputable def pm_ev (pc : Nat) (lv : pm_Lv) (st : List pm_V) (u : pm_S) : Option pm_Rs := @dite _ (∃ f r, pm_loop c sc rk cd f pc lv st u = some r) (Classical.propDecidable _) (fun h => pm_loop c sc rk cd (Classical.choose h) pc lv st u) (fun _ => none)
end PME
section PMF
variable {c : Nat → List pm_V → pm_S → Option pm_Rs} {sc : pm_Sc} {rk : Nat} {cd : pm_Cd}
theorem pm_loop_up {r : pm_Rs} : ∀ (f : Nat) (pc : Nat) (lv : pm_Lv) (st : List pm_V) (u : pm_S), pm_loop c sc rk cd f pc lv st u = some r → pm_loop c sc rk cd (f + 1) pc lv st u = some r
  | 0, _, _, _, _, h => by cases h
  | f + 1, pc, lv, st, u, h => by
    revert h
    exact pm_stp_rel (R := fun a b => a = some r → b = some r) (fun pc lv st u => pm_loop_up f pc lv st u) (fun _ h => h) (fun h => h)
theorem pm_loop_le {r : pm_Rs} {f g : Nat} (hfg : f ≤ g) {pc : Nat} {lv : pm_Lv} {st : List pm_V} {u : pm_S} (h : pm_loop c sc rk cd f pc lv st u = some r) : pm_loop c sc rk cd g pc lv st u = some r := by
  induction hfg with
  | refl => exact h
  | step _ ih => exact pm_loop_up _ _ _ _ _ ih
theorem pm_ev_of {r : pm_Rs} {f pc : Nat} {lv : pm_Lv} {st : List pm_V} {u : pm_S} (h : pm_loop c sc rk cd f pc lv st u = some r) : pm_ev c sc rk cd pc lv st u = some r := by
  have he : ∃ f r, pm_loop c sc rk cd f pc lv st u = some r := ⟨f, r, h⟩
  unfold pm_ev
  rw [dif_pos he]
  obtain ⟨r', hr'⟩ := Classical.choose_spec he
  have h1 := pm_loop_le (Nat.le_max_left (Classical.choose he) f) hr'
  have h2 := pm_loop_le (Nat.le_max_right (Classical.choose he) f) h
  rw [h1] at h2
  rw [hr', h2]
theorem pm_ev_some {r : pm_Rs} {pc : Nat} {lv : pm_Lv} {st : List pm_V} {u : pm_S} (h : pm_ev c sc rk cd pc lv st u = some r) : ∃ f, pm_loop c sc rk cd f pc lv st u = some r := by
  unfold pm_ev at h
  by_cases he : ∃ f r, pm_loop c sc rk cd f pc lv st u = some r
  · rw [dif_pos he] at h
    exact ⟨_, h⟩
  · rw [dif_neg he] at h
    cases h
/-- one step on -/
theorem pm_ev_step (pc : Nat) (lv : pm_Lv) (st : List pm_V) (u : pm_S) : pm_ev c sc rk cd pc lv st u = pm_stp c sc rk cd pc lv st u (pm_ev c sc rk cd) some none := by
  have key : ∀ f, pm_loop c sc rk cd f = fun pc lv st u => pm_loop c sc rk cd f pc lv st u := fun _ => rfl
  -- the step, as data
  have hd : ∀ (γ : Type) (kg : Nat → pm_Lv → List pm_V → pm_S → γ) (kr : pm_Rs → γ) (kn : γ), pm_stp c sc rk cd pc lv st u kg kr kn = (match pm_stp (α := pm_St ⊕ Option pm_Rs) c sc rk cd pc lv st u (fun pc lv st u => .inl (pc, lv, st, u)) (fun r => .inr (some r)) (.inr none) with
      | .inl (pc, lv, st, u) => kg pc lv st u
      | .inr (some r) => kr r
      | .inr none => kn) := by
    intro γ kg kr kn
    exact pm_stp_rel (R := fun (a : γ) (t : pm_St ⊕ Option pm_Rs) => a = (match t with | .inl (pc, lv, st, u) => kg pc lv st u | .inr (some r) => kr r | .inr none => kn)) (fun _ _ _ _ => rfl) (fun _ => rfl) rfl
  have hl : ∀ f, pm_loop c sc rk cd (f + 1) pc lv st u = pm_stp c sc rk cd pc lv st u (pm_loop c sc rk cd f) some none := fun _ => rfl
  rw [hd]
  rcases ht : pm_stp (α := pm_St ⊕ Option pm_Rs) c sc rk cd pc lv st u (fun pc lv st u => .inl (pc, lv, st, u)) (fun r => .inr (some r)) (.inr none) with ⟨pc', lv', st', u'⟩ | _ | r
  · have h1 : ∀ f, pm_loop c sc rk cd (f + 1) pc lv st u = pm_loop c sc rk cd f pc' lv' st' u' := fun f => by rw [hl, hd, ht]
    show pm_ev c sc rk cd pc lv st u = pm_ev c sc rk cd pc' lv' st' u'
    cases hv : pm_ev c sc rk cd pc' lv' st' u' with
    | some r =>
      obtain ⟨f, hf⟩ := pm_ev_some hv
      exact pm_ev_of (f := f + 1) (by rw [h1]; exact hf)
    | none =>
      cases hw : pm_ev c sc rk cd pc lv st u with
      | none => rfl
      | some r =>
        obtain ⟨f, hf⟩ := pm_ev_some hw
        have hf1 := pm_loop_up _ _ _ _ _ hf
        rw [h1] at hf1
        rw [pm_ev_of hf1] at hv
        cases hv
  · show pm_ev c sc rk cd pc lv st u = none
    cases hw : pm_ev c sc rk cd pc lv st u with
    | none => rfl
    | some r =>
      obtain ⟨f, hf⟩ := pm_ev_some hw
      have hf1 := pm_loop_up _ _ _ _ _ hf
      rw [hl, hd, ht] at hf1
      cases hf1
  · show pm_ev c sc rk cd pc lv st u = some r
    exact pm_ev_of (f := 1) (by rw [hl, hd, ht])
/-- k steps on -/
theorem pm_ev_iter (cut : List Nat) : ∀ (k : Nat) (pc : Nat) (lv : pm_Lv) (st : List pm_V) (u : pm_S), pm_ev c sc rk cd pc lv st u = pm_iter c sc rk cd cut k pc lv st u (pm_ev c sc rk cd) some none
  | 0, _, _, _, _ => rfl
  | k + 1, pc, lv, st, u => by
    rw [pm_ev_step]
    show _ = pm_stp c sc rk cd pc lv st u (fun pc lv st u => bif cut.any (Nat.beq pc) then pm_ev c sc rk cd pc lv st u else pm_iter c sc rk cd cut k pc lv st u (pm_ev c sc rk cd) some none) some none
    refine pm_stp_rel (R := fun a b => a = b) (fun pc lv st u => ?_) (fun _ => rfl) rfl
    cases cut.any (Nat.beq pc)
    · exact pm_ev_iter cut k pc lv st u
    · rfl
end PMF
def pm_args : Nat → List pm_V → pm_Lv
  | _, [] => []
  | i, v :: vs => (i, v) :: pm_args (i + 1) vs
/-- the machine's calls, to a depth; T: code and kind of answer of each method -/
noncomputable def pm_call (T : Nat → pm_Cd × Nat) (sc : pm_Sc) : Nat → Nat → List pm_V → pm_S → Option pm_Rs
  | 0, mi, av, u => pm_ev (fun _ _ _ => none) sc (T mi).2 (T mi).1 0 (pm_args 0 av) [] u
  | d + 1, mi, av, u => pm_ev (pm_call T sc d) sc (T mi).2 (T mi).1 0 (pm_args 0 av) [] u
/-! places never go away -/
section PMN
variable {c : Nat → List pm_V → pm_S → Option pm_Rs} {sc : pm_Sc} {rk : Nat} {cd : pm_Cd}
theorem pm_put_n {ty k j : Nat} {v : pm_V} {u : pm_S} {kg : pm_S → Prop} {kn : Prop} (h : ∀ u' : pm_S, u'.1 = u.1 → kg u') (hn : kn) : pm_put ty k j v u kg kn := by
  rcases ty with _ | _ | _ | ty <;> rcases v with x | b | (_ | q) | _ <;> first | exact hn | exact h _ rfl | skip
  show if x = 0 then _ else if x = 1 then _ else _
  split
  · exact h _ rfl
  · split
    · exact h _ rfl
    · exact hn
theorem pm_bif_t {x : Bool} {a b : Prop} (ha : a) (hb : b) : (bif x then a else b) := by
  cases x
  · exact hb
  · exact ha
theorem pm_ite_t {p : Prop} {hd : Decidable p} {a b : Prop} (ha : a) (hb : b) : @ite Prop p hd a b := by
  by_cases h : p
  · rw [if_pos h]; exact ha
  · rw [if_neg h]; exact hb
theorem pm_do_all {P : pm_S → Prop} {ins : Jvm.ClassFile.Instr} {nx : Nat} {ax : List Nat} {lv : pm_Lv} {st : List pm_V} {u : pm_S} (h1 : ∀ u' : pm_S, u'.1 = u.1 → P u') (h2 : P (pm_made u)) (h3 : ∀ mi av v u', c mi av u = some (v, u') → P u') : pm_do c sc rk ins nx ax lv st u (fun _ _ _ u' => P u') (fun r => P r.2) True := by
  have h0 : P u := h1 u rfl
  have hc : ∀ mi av, pm_call1 (fun (_ : Option pm_V) u' => P u') True (c mi av u) := by
    intro mi av
    cases hcm : c mi av u with
    | none => exact trivial
    | some q => exact h3 mi av q.1 q.2 hcm
  have hnew : ∀ (d : pm_Kd) (st : List pm_V), pm_new d st u (fun _ u' => P u') True := by
    intro d st
    unfold pm_new
    rcases pm_kd u.1 with _ | a | ⟨a, x⟩ <;> rcases d with b | ⟨b, y⟩ <;> first | exact trivial | exact pm_bif_t h2 trivial
  have hobj : ∀ (st : List pm_V) (kg : Nat → Nat → List pm_V → Prop), (∀ k ci st, kg k ci st) → pm_obj u.1 st kg True := fun st kg h => pm_obj_rel (R := fun (_ : Unit) (p : Prop) => p) (kg := fun _ _ _ => ()) (kn := ()) h trivial
  cases ins
  case iload_n k => exact pm_ld_rel (R := fun (_ : Unit) (p : Prop) => p) (kg := fun _ => ()) (kn := ()) (fun _ => h0) trivial
  case iload k => exact pm_ld_rel (R := fun (_ : Unit) (p : Prop) => p) (kg := fun _ => ()) (kn := ()) (fun _ => h0) trivial
  case aload_n k => exact pm_la_rel (R := fun (_ : Unit) (p : Prop) => p) (kg := fun _ => ()) (kn := ()) (fun _ => h0) trivial
  case aload k => exact pm_la_rel (R := fun (_ : Unit) (p : Prop) => p) (kg := fun _ => ()) (kn := ()) (fun _ => h0) trivial
  case istore_n k => exact pm_si_rel (R := fun (_ : Unit) (p : Prop) => p) (kg := fun _ _ => ()) (kn := ()) (fun _ _ => h0) trivial
  case istore k => exact pm_si_rel (R := fun (_ : Unit) (p : Prop) => p) (kg := fun _ _ => ()) (kn := ()) (fun _ _ => h0) trivial
  case astore_n k => exact pm_sa_rel (R := fun (_ : Unit) (p : Prop) => p) (kg := fun _ _ => ()) (kn := ()) (fun _ _ => h0) trivial
  case astore k => exact pm_sa_rel (R := fun (_ : Unit) (p : Prop) => p) (kg := fun _ _ => ()) (kn := ()) (fun _ _ => h0) trivial
  case iinc i n =>
    show (match pm_lget lv i with | some (.inl x) => P u | _ => True)
    rcases pm_lget lv i with _ | x | b <;> first | exact trivial | exact h0
  case iadd => exact pm_op2_rel (R := fun (_ : Unit) (p : Prop) => p) (kg := fun _ _ _ => ()) (kn := ()) (fun _ _ _ => h0) trivial
  case isub => exact pm_op2_rel (R := fun (_ : Unit) (p : Prop) => p) (kg := fun _ _ _ => ()) (kn := ()) (fun _ _ _ => h0) trivial
  case imul => exact pm_op2_rel (R := fun (_ : Unit) (p : Prop) => p) (kg := fun _ _ _ => ()) (kn := ()) (fun _ _ _ => h0) trivial
  case iand => exact pm_op2_rel (R := fun (_ : Unit) (p : Prop) => p) (kg := fun _ _ _ => ()) (kn := ()) (fun _ _ _ => h0) trivial
  case ior => exact pm_op2_rel (R := fun (_ : Unit) (p : Prop) => p) (kg := fun _ _ _ => ()) (kn := ()) (fun _ _ _ => h0) trivial
  case ishl => exact pm_op2_rel (R := fun (_ : Unit) (p : Prop) => p) (kg := fun _ _ _ => ()) (kn := ()) (fun _ _ _ => h0) trivial
  case ishr => exact pm_op2_rel (R := fun (_ : Unit) (p : Prop) => p) (kg := fun _ _ _ => ()) (kn := ()) (fun _ _ _ => h0) trivial
  case idiv => exact pm_op2_rel (R := fun (_ : Unit) (p : Prop) => p) (kg := fun _ _ _ => ()) (kn := ()) (fun _ _ _ => pm_ite_t trivial h0) trivial
  case irem => exact pm_op2_rel (R := fun (_ : Unit) (p : Prop) => p) (kg := fun _ _ _ => ()) (kn := ()) (fun _ _ _ => pm_ite_t trivial h0) trivial
  case dup => rcases st with _ | ⟨v, st⟩ <;> first | exact trivial | exact h0
  case dup2 => rcases st with _ | ⟨v, _ | ⟨w, st⟩⟩ <;> first | exact trivial | exact h0
  case ifCond cd off => rcases st with _ | ⟨x | b | q, st⟩ <;> first | exact trivial | exact pm_br_rel (R := fun (_ : Unit) (p : Prop) => p) (a := ()) (b := ()) h0 h0 | exact pm_brb_rel (R := fun (_ : Unit) (p : Prop) => p) (a := ()) (b := ()) (d := ()) h0 h0 trivial
  case if_icmp cd off => rcases st with _ | ⟨y | y | q, _ | ⟨x | x | q2, st⟩⟩ <;> first | exact trivial | exact pm_br2_rel (R := fun (_ : Unit) (p : Prop) => p) (a := ()) (b := ()) h0 h0 | exact pm_brb2_rel (R := fun (_ : Unit) (p : Prop) => p) (a := ()) (b := ()) (d := ()) h0 h0 trivial
  case getfield i => rcases ax with _ | ⟨j, _ | ⟨ty, cis⟩⟩ <;> first | exact trivial | exact hobj _ _ (fun _ _ _ => pm_bif_t h0 trivial)
  case putfield i => rcases ax with _ | ⟨j, _ | ⟨ty, _ | ⟨fi, cis⟩⟩⟩ <;> rcases st with _ | ⟨v, st⟩ <;> first | exact trivial | exact hobj _ _ (fun _ _ _ => pm_bif_t (pm_put_n h1 trivial) trivial)
  case iaload => exact pm_ald_rel (R := fun (_ : Unit) (p : Prop) => p) (kg := fun _ _ => ()) (kn := ()) (fun _ _ => h0) trivial
  case baload => exact pm_ald_rel (R := fun (_ : Unit) (p : Prop) => p) (kg := fun _ _ => ()) (kn := ()) (fun _ _ => h0) trivial
  case aaload => exact pm_ald_rel (R := fun (_ : Unit) (p : Prop) => p) (kg := fun _ _ => ()) (kn := ()) (fun _ _ => h0) trivial
  case iastore =>
    rcases st with _ | ⟨v, _ | ⟨i | i, _ | ⟨x | b | (_ | k) | z, st⟩⟩⟩ <;> first | exact trivial | skip
    show (match pm_arr u.1 k with | some (t, len) => _ | none => True)
    rcases pm_arr u.1 k with _ | ⟨t, len⟩
    · exact trivial
    · exact pm_bif_t (pm_put_n h1 trivial) trivial
  case bastore =>
    rcases st with _ | ⟨v, _ | ⟨i | i, _ | ⟨x | b | (_ | k) | z, st⟩⟩⟩ <;> first | exact trivial | skip
    show (match pm_arr u.1 k with | some (t, len) => _ | none => True)
    rcases pm_arr u.1 k with _ | ⟨t, len⟩
    · exact trivial
    · exact pm_bif_t (pm_put_n h1 trivial) trivial
  case aastore =>
    rcases st with _ | ⟨y | d | (_ | q) | w, _ | ⟨i | i, _ | ⟨x | b | (_ | k) | z, st⟩⟩⟩ <;> first | exact trivial | skip
    show (match pm_arr u.1 k, pm_cls u.1 q with | some (t, len), some ci => _ | _, _ => True)
    rcases pm_arr u.1 k with _ | ⟨t, len⟩ <;> rcases pm_cls u.1 q with _ | ci <;> first | exact trivial | exact pm_bif_t (h1 _ rfl) trivial
  case arraylength => rcases st with _ | ⟨x | b | q | z, st⟩ <;> first | exact trivial | exact h0
  case new i => rcases ax with _ | ⟨ci, ax⟩ <;> first | exact trivial | (simp only [pm_do]; exact hnew (.inl ci) st)
  case newarray a => rcases ax with _ | ⟨t, _ | ⟨t2, ax⟩⟩ <;> rcases st with _ | ⟨x | b, st⟩ <;> first | exact trivial | exact pm_bif_t (hnew _ _) trivial
  case anewarray a => rcases ax with _ | ⟨t, _ | ⟨t2, ax⟩⟩ <;> rcases st with _ | ⟨x | b, st⟩ <;> first | exact trivial | exact pm_bif_t (hnew _ _) trivial
  case invokevirtual i =>
    rcases ax with _ | ⟨na, _ | ⟨xn, ps⟩⟩ <;> first | exact trivial | skip
    show (match pm_pop na [] st with | some (as, st) => _ | none => True)
    rcases pm_pop na [] st with _ | ⟨as, st⟩
    · exact trivial
    · refine hobj _ _ (fun k ci st => ?_)
      show (match pm_pair ps ci with | some mi => _ | none => True)
      rcases pm_pair ps ci with _ | mi
      · exact trivial
      · exact pm_bif_t (hc _ _) trivial
  case invokespecial i =>
    rcases ax with _ | ⟨na, _ | ⟨mi, ax⟩⟩
    · rcases st with _ | ⟨x | b | (_ | k) | z, st⟩ <;> first | exact trivial | exact pm_bif_t h0 trivial
    · exact trivial
    · show (match pm_pop na [] st with | some (as, .inr (.inr (.inl (some k))) :: st) => _ | _ => True)
      rcases pm_pop na [] st with _ | ⟨as, _ | ⟨x | b | (_ | k) | z, st⟩⟩ <;> first | exact trivial | exact pm_bif_t (hc _ _) trivial
  case invokestatic i =>
    rcases ax with _ | ⟨na, _ | ⟨mi, ax⟩⟩
    · exact trivial
    · rcases na with _ | _ | na <;> first | exact trivial | exact pm_op2_rel (R := fun (_ : Unit) (p : Prop) => p) (kg := fun _ _ _ => ()) (kn := ()) (fun _ _ _ => pm_bif_t h0 trivial) trivial
    · have key : (match pm_pop na [] st with | some (as, st) => pm_gd st (pm_call1 (fun (_ : Option pm_V) u' => P u') True (c mi as u)) True | none => True) := by
        rcases pm_pop na [] st with _ | ⟨as, st⟩
        · exact trivial
        · exact pm_bif_t (hc _ _) trivial
      rcases na with _ | _ | na <;> exact key
  case tableswitch d lo hi offs => rcases ax with _ | ⟨d, ts⟩ <;> rcases st with _ | ⟨x | b, st⟩ <;> first | exact trivial | exact pm_sw_rel (R := fun (_ : Unit) (p : Prop) => p) (kg := fun _ => ()) (fun _ => h0) _ _ _
  case ireturn => rcases rk with _ | _ | _ | rk <;> rcases st with _ | ⟨x | b | (_ | q) | _, _ | ⟨v2, st⟩⟩ <;> first | exact trivial | exact h0 | exact pm_ite_t h0 (pm_ite_t h0 trivial)
  case areturn => rcases rk with _ | _ | _ | _ | rk <;> rcases st with _ | ⟨x | b | q | z, _ | ⟨v2, st⟩⟩ <;> first | exact trivial | exact h0
  case return_ => rcases rk with _ | rk <;> rcases st with _ | ⟨x, st⟩ <;> first | exact trivial | exact h0
  all_goals first | exact h0 | exact trivial
theorem pm_loop_n (hc : ∀ mi av u v u', c mi av u = some (v, u') → u.1 ≤ u'.1) {r : pm_Rs} : ∀ (f : Nat) (pc : Nat) (lv : pm_Lv) (st : List pm_V) (u : pm_S), pm_loop c sc rk cd f pc lv st u = some r → u.1 ≤ r.2.1
  | 0, _, _, _, _, h => by cases h
  | f + 1, pc, lv, st, u, h => by
    have hP : pm_stp c sc rk cd pc lv st u (fun _ _ _ u' => u.1 ≤ u'.1) (fun r => u.1 ≤ r.2.1) True := by
      unfold pm_stp
      rcases pm_find cd pc with _ | ⟨ins, nx, ax⟩
      · exact trivial
      · exact pm_do_all (P := fun u' => u.1 ≤ u'.1) (fun u' e => Nat.le_of_eq e.symm) (Nat.le_succ _) (fun mi av v u' hv => hc mi av u v u' hv)
    revert h hP
    exact pm_stp_rel (R := fun (a : Option pm_Rs) (p : Prop) => a = some r → p → u.1 ≤ r.2.1) (fun pc lv st u' h hP => Nat.le_trans hP (pm_loop_n hc f pc lv st u' h)) (fun r' h hP => by cases h; exact hP) (fun h => by cases h)
end PMN
theorem pm_call_n {T : Nat → pm_Cd × Nat} {sc : pm_Sc} : ∀ (d mi : Nat) (av : List pm_V) (u : pm_S) (v : Option pm_V) (u' : pm_S), pm_call T sc d mi av u = some (v, u') → u.1 ≤ u'.1
  | 0, mi, av, u, v, u', h => by
    obtain ⟨f, hf⟩ := pm_ev_some h
    exact pm_loop_n (r := (v, u')) (fun _ _ _ _ _ h => by cases h) f _ _ _ _ hf
  | d + 1, mi, av, u, v, u', h => by
    obtain ⟨f, hf⟩ := pm_ev_some h
    exact pm_loop_n (r := (v, u')) (fun mi av u v u' h => pm_call_n d mi av u v u' h) f _ _ _ _ hf
end
section
/-! The memory of places in the model's heap: place k stands at z + k, z the heap's size at the law's start; all that is made since is a place, in the order of making. -/
def pm_cn (k : Nat) : String := ["PlatformDoors", "PlatformDoors$Frame", "PlatformDoors$Leaf", "PlatformDoors$Line", "PlatformDoors$Platform", "PlatformDoors$Train", "PlatformDoorsModel", "PlatformDoors$Side", "PlatformDoorsLaw"].getD k ""
abbrev pm_Fd : Type := String × String × String × Bool × Nat
def pm_side : List pm_Fd := [("PlatformDoors$Side", "leaves", "[LPlatformDoors$Leaf;", true, 2), ("PlatformDoors$Side", "newest", "LPlatformDoors$Frame;", true, 2), ("PlatformDoors$Side", "incoming", "LPlatformDoors$Line;", true, 2), ("PlatformDoors$Side", "outgoing", "LPlatformDoors$Line;", true, 2), ("PlatformDoors$Side", "steps", "I", false, 0), ("PlatformDoors$Side", "state", "I", false, 0), ("PlatformDoors$Side", "warningBegan", "I", false, 0), ("PlatformDoors$Side", "openedAt", "I", false, 0), ("PlatformDoors$Side", "openings", "I", false, 0)]
def pm_mf (n : String) (d : String) (t : Nat) : pm_Fd := ("PlatformDoorsModel", n, d, Nat.beq t 2, t)
def pm_fd : List (String × List pm_Fd) := [
  ("PlatformDoors", [("PlatformDoors", "train", "LPlatformDoors$Train;", true, 2), ("PlatformDoors", "platform", "LPlatformDoors$Platform;", true, 2), ("PlatformDoors", "stoodAt", "I", false, 0), ("PlatformDoors", "breachCount", "I", false, 0)]),
  ("PlatformDoors$Frame", [("PlatformDoors$Frame", "number", "I", false, 0), ("PlatformDoors$Frame", "echo", "I", false, 0), ("PlatformDoors$Frame", "state", "I", false, 0), ("PlatformDoors$Frame", "isolatedBits", "I", false, 0), ("PlatformDoors$Frame", "assured", "Z", false, 1), ("PlatformDoors$Frame", "commandIsOpen", "Z", false, 1)]),
  ("PlatformDoors$Leaf", [("PlatformDoors$Leaf", "contacts", "[I", true, 2), ("PlatformDoors$Leaf", "position", "I", false, 0), ("PlatformDoors$Leaf", "retries", "I", false, 0), ("PlatformDoors$Leaf", "reopening", "I", false, 0), ("PlatformDoors$Leaf", "obstructed", "I", false, 0), ("PlatformDoors$Leaf", "wantedOpen", "Z", false, 1), ("PlatformDoors$Leaf", "isolated", "Z", false, 1), ("PlatformDoors$Leaf", "released", "Z", false, 1), ("PlatformDoors$Leaf", "callsStaff", "Z", false, 1)]),
  ("PlatformDoors$Line", [("PlatformDoors$Line", "frames", "[LPlatformDoors$Frame;", true, 2), ("PlatformDoors$Line", "count", "I", false, 0)]),
  ("PlatformDoors$Platform", pm_side),
  ("PlatformDoors$Train", pm_side ++ [("PlatformDoors$Train", "place", "I", false, 0), ("PlatformDoors$Train", "speed", "I", false, 0), ("PlatformDoors$Train", "measuringError", "I", false, 0), ("PlatformDoors$Train", "stepsAtRest", "I", false, 0), ("PlatformDoors$Train", "commandIsOpen", "Z", false, 1)]),
  ("PlatformDoorsModel", [pm_mf "steps" "[I" 2, pm_mf "state" "[I" 2, pm_mf "warned" "[I" 2, pm_mf "opened" "[I" 2, pm_mf "has" "[Z" 2, pm_mf "taken" "[I" 2, pm_mf "many" "[I" 2, pm_mf "frames" "[I" 2, pm_mf "position" "[I" 2, pm_mf "isolated" "[Z" 2, pm_mf "released" "[Z" 2, pm_mf "wanted" "[Z" 2, pm_mf "staff" "[Z" 2, pm_mf "obstructed" "[I" 2, pm_mf "retries" "[I" 2, pm_mf "reopening" "[I" 2, pm_mf "contacts" "[I" 2, pm_mf "place" "I" 0, pm_mf "speed" "I" 0, pm_mf "error" "I" 0, pm_mf "still" "I" 0, pm_mf "command" "Z" 1, pm_mf "there" "I" 0, pm_mf "breaches" "I" 0])]
def pm_T (fs : List pm_Fd) : u_T := fun k => ((fs.getD k ("", "", "", false, 0)).1, (fs.getD k ("", "", "", false, 0)).2.1, (fs.getD k ("", "", "", false, 0)).2.2.1, (fs.getD k ("", "", "", false, 0)).2.2.2.1)
def pm_tl (fs : List pm_Fd) : List Nat := fs.map (fun q => q.2.2.2.2)
def pm_cl : List vw_C := pm_fd.map (fun q => (q.1, pm_T q.2, q.2.length))
def pm_fs0 (ci : Nat) : List pm_Fd := (pm_fd.getD ci ("", [])).2
abbrev pm_G : Type := va_G × (Nat → ClassId) × Nat × Nat
def pm_rz (z : Nat) (q : Option Nat) : Option Nat := q.map (fun k => z + k)
def pm_vl (z b : Nat) : pm_V → Value
  | .inl x => .int x
  | .inr (.inl w) => .int (bif w then 1 else 0)
  | .inr (.inr (.inl q)) => va_rf (pm_rz z q)
  | .inr (.inr (.inr _)) => .ref b
theorem pm_cat (z b : Nat) (v : pm_V) : (pm_vl z b v).category = 1 := by
  rcases v with x | w | (_ | q) | _ <;> rfl
def pm_sv (ty z : Nat) (x : Int32) (w : Bool) (r : Option Nat) : Value := match ty with
  | 0 => .int x
  | 1 => .int (bif w then 1 else 0)
  | _ => va_rf (pm_rz z r)
theorem pm_vl_get (z b ty k j : Nat) (u : pm_S) : pm_vl z b (pm_get ty k j u) = pm_sv ty z (u.2.1 k j) (u.2.2.1 k j) (u.2.2.2 k j) := by
  rcases ty with _ | _ | ty <;> rfl
def pm_fs (tl : List Nat) (z : Nat) (x : Nat → Int32) (w : Nat → Bool) (r : Nat → Option Nat) : List Value := (List.range tl.length).map (fun j => pm_sv (tl.getD j 0) z (x j) (w j) (r j))
def pm_ac (t z : Nat) (x : Nat → Int32) (w : Nat → Bool) (r : Nat → Option Nat) : (Nat → Int32) ⊕ (Nat → Int64) ⊕ (Nat → UInt32) ⊕ (Nat → UInt64) ⊕ (Nat → Option Nat) := match t with
  | 0 => .inl x
  | 1 => .inl (fun j => bif w j then 1 else 0)
  | _ => .inr (.inr (.inr (.inr (fun j => pm_rz z (r j)))))
def pm_cell (G : pm_G) (d : pm_Kd) (x : Nat → Int32) (w : Nat → Bool) (r : Nat → Option Nat) : va_E := match d with
  | .inl ci => .inr (ci, pm_fs (pm_tl (pm_fs0 ci)) G.2.2.1 x w r)
  | .inr (t, len) => .inl (G.2.1 t, len, pm_ac t G.2.2.1 x w r)
def pm_kx (k : Nat) : pm_Kd := (pm_kd k).getD (.inl 0)
def pm_ws (G : pm_G) (u : pm_S) : va_W := (List.range u.1).map (fun k => (G.2.2.1 + k, pm_cell G (pm_kx k) (u.2.1 k) (u.2.2.1 k) (u.2.2.2 k)))
/-- the heap holds the memory, and ends behind its last place -/
def pm_H (G : pm_G) (u : pm_S) (H : Heap) : Prop := H.size = G.2.2.1 + u.1 ∧ va_P G.1 pm_cl (pm_ws G u) H
def pm_A (G : pm_G) : Nat → Prop := fun q => G.2.2.1 ≤ q
theorem pm_ws_get {G : pm_G} {u : pm_S} {k : Nat} (h : k < u.1) : (pm_ws G u)[k]? = some (G.2.2.1 + k, pm_cell G (pm_kx k) (u.2.1 k) (u.2.2.1 k) (u.2.2.2 k)) := by
  unfold pm_ws
  rw [List.getElem?_map, List.getElem?_range h]
  rfl
theorem pm_ws_D {G : pm_G} {u : pm_S} : va_D (pm_A G) (pm_ws G u) := by
  have key : ∀ (k : Nat) (q : Nat × va_E), (pm_ws G u)[k]? = some q → q.1 = G.2.2.1 + k := by
    intro k q hk
    have hl : k < u.1 := by
      have := (List.getElem?_eq_some_iff.mp hk).1
      simpa [pm_ws] using this
    rw [pm_ws_get hl] at hk
    cases hk
    rfl
  refine ⟨fun i j p q hi hj hpq => ?_, fun k q hk => ?_⟩
  · have h1 := key i p hi
    have h2 := key j q hj
    omega
  · show G.2.2.1 ≤ q.1
    rw [key k q hk]
    omega
/-- a cell is written: the memory differs at that place alone -/
theorem pm_ws_set {G : pm_G} {u u' : pm_S} {k : Nat} {e : va_E} (hn : u'.1 = u.1) (he : pm_cell G (pm_kx k) (u'.2.1 k) (u'.2.2.1 k) (u'.2.2.2 k) = e) (hx : ∀ a, a ≠ k → u'.2.1 a = u.2.1 a) (hw : ∀ a, a ≠ k → u'.2.2.1 a = u.2.2.1 a) (hr : ∀ a, a ≠ k → u'.2.2.2 a = u.2.2.2 a) : (pm_ws G u).set k (G.2.2.1 + k, e) = pm_ws G u' := by
  apply List.ext_getElem?
  intro i
  rw [List.getElem?_set]
  by_cases hi : i < u.1
  · rw [pm_ws_get (u := u') (by omega)]
    by_cases hk : k = i
    · subst hk
      have hl : k < (pm_ws G u).length := by simpa [pm_ws] using hi
      rw [if_pos rfl, if_pos hl, he]
    · rw [if_neg hk, pm_ws_get hi, hx i (Ne.symm hk), hw i (Ne.symm hk), hr i (Ne.symm hk)]
  · have h1 : (pm_ws G u).length ≤ i := by simpa [pm_ws] using Nat.not_lt.mp hi
    have h2 : (pm_ws G u').length ≤ i := by simp [pm_ws]; omega
    rw [List.getElem?_eq_none h2]
    by_cases hk : k = i
    · subst hk
      rw [if_pos rfl, if_neg (by omega)]
    · rw [if_neg hk, List.getElem?_eq_none h1]
/-- a new place -/
theorem pm_ws_push {G : pm_G} {u u' : pm_S} {e : va_E} (hn : u'.1 = u.1 + 1) (he : pm_cell G (pm_kx u.1) (u'.2.1 u.1) (u'.2.2.1 u.1) (u'.2.2.2 u.1) = e) (hx : ∀ a, a ≠ u.1 → u'.2.1 a = u.2.1 a) (hw : ∀ a, a ≠ u.1 → u'.2.2.1 a = u.2.2.1 a) (hr : ∀ a, a ≠ u.1 → u'.2.2.2 a = u.2.2.2 a) : pm_ws G u ++ [(G.2.2.1 + u.1, e)] = pm_ws G u' := by
  apply List.ext_getElem?
  intro i
  have hlen : (pm_ws G u).length = u.1 := by simp [pm_ws]
  by_cases hi : i < u.1
  · rw [List.getElem?_append_left (by omega), pm_ws_get hi, pm_ws_get (u := u') (by omega), hx i (by omega), hw i (by omega), hr i (by omega)]
  · by_cases hk : i = u.1
    · subst hk
      rw [List.getElem?_append_right (by omega), hlen, Nat.sub_self, pm_ws_get (u := u') (by omega), he]
      rfl
    · have h2 : (pm_ws G u').length ≤ i := by simp [pm_ws]; omega
      rw [List.getElem?_eq_none h2, List.getElem?_eq_none (by simp [hlen]; omega)]
theorem pm_up_ne {α : Type} {x : Nat → Nat → α} {k j a : Nat} {v : α} (h : a ≠ k) : pm_up x k j v a = x a := by
  funext b
  have : Nat.beq a k = false := by
    cases hb : Nat.beq a k
    · rfl
    · exact absurd (Nat.eq_of_beq_eq_true hb) h
  simp [pm_up, this]
theorem pm_up_at {α : Type} {x : Nat → Nat → α} {k j b : Nat} {v : α} : pm_up x k j v k b = if b = j then v else x k b := by
  have h1 : Nat.beq k k = true := Nat.beq_refl k
  by_cases h : b = j
  · subst h
    simp [pm_up, h1, Nat.beq_refl]
  · have : Nat.beq b j = false := by
      cases hb : Nat.beq b j
      · rfl
      · exact absurd (Nat.eq_of_beq_eq_true hb) h
    simp [pm_up, h1, this, h]
theorem pm_up_eq {α : Type} {x : Nat → Nat → α} {k j a b : Nat} {v : α} : pm_up x k j v a b = if a = k ∧ b = j then v else x a b := by
  by_cases h : a = k
  · subst h
    rw [pm_up_at]
    by_cases hb : b = j
    · rw [if_pos hb, if_pos ⟨rfl, hb⟩]
    · rw [if_neg hb, if_neg (fun z => hb z.2)]
  · rw [pm_up_ne h, if_neg (fun z => h z.1)]
theorem pm_fz_ne {α : Type} {x : Nat → Nat → α} {k a : Nat} {v : α} (h : a ≠ k) : pm_fz x k v a = x a := by
  funext b
  have : Nat.beq a k = false := by
    cases hb : Nat.beq a k
    · rfl
    · exact absurd (Nat.eq_of_beq_eq_true hb) h
  simp [pm_fz, this]
theorem pm_fz_at {α : Type} {x : Nat → Nat → α} {k : Nat} {v : α} : pm_fz x k v k = fun _ => v := by
  funext b
  simp [pm_fz, Nat.beq_refl]
theorem pm_fs_get {tl : List Nat} {z : Nat} {x : Nat → Int32} {w : Nat → Bool} {r : Nat → Option Nat} {j : Nat} (h : j < tl.length) : (pm_fs tl z x w r)[j]? = some (pm_sv (tl.getD j 0) z (x j) (w j) (r j)) := by
  unfold pm_fs
  rw [List.getElem?_map, List.getElem?_range h]
  rfl
theorem pm_fs_len {tl : List Nat} {z : Nat} {x : Nat → Int32} {w : Nat → Bool} {r : Nat → Option Nat} : (pm_fs tl z x w r).length = tl.length := by simp [pm_fs]
theorem pm_fs_set {tl : List Nat} {z : Nat} {x x' : Nat → Int32} {w w' : Nat → Bool} {r r' : Nat → Option Nat} {j : Nat} {v : Value} (hj : j < tl.length) (hs : pm_sv (tl.getD j 0) z (x' j) (w' j) (r' j) = v) (hx : ∀ b, b ≠ j → x' b = x b) (hw : ∀ b, b ≠ j → w' b = w b) (hr : ∀ b, b ≠ j → r' b = r b) : (pm_fs tl z x w r).set j v = pm_fs tl z x' w' r' := by
  apply List.ext_getElem?
  intro i
  rw [List.getElem?_set]
  by_cases hi : i < tl.length
  · rw [pm_fs_get (x := x') hi]
    by_cases hk : j = i
    · subst hk
      rw [if_pos rfl, if_pos (by rw [pm_fs_len]; exact hi), hs]
    · rw [if_neg hk, pm_fs_get hi, hx i (Ne.symm hk), hw i (Ne.symm hk), hr i (Ne.symm hk)]
  · have h1 : (pm_fs tl z x w r).length ≤ i := by rw [pm_fs_len]; omega
    have h2 : (pm_fs tl z x' w' r').length ≤ i := by rw [pm_fs_len]; omega
    rw [List.getElem?_eq_none h2]
    by_cases hk : j = i
    · subst hk
      rw [if_pos rfl, if_neg (by omega)]
    · rw [if_neg hk, List.getElem?_eq_none h1]
/-! places by their kind -/
theorem pm_blt {a b : Nat} (h : Nat.blt a b = true) : a < b := Nat.le_of_ble_eq_true h
theorem pm_beq {a b : Nat} (h : Nat.beq a b = true) : a = b := Nat.eq_of_beq_eq_true h
theorem pm_cls_spec {n k ci : Nat} (h : pm_cls n k = some ci) : k < n ∧ pm_kd k = some (.inl ci) := by
  unfold pm_cls at h
  cases hb : Nat.blt k n with
  | false => rw [hb] at h; cases h
  | true =>
    rw [hb] at h
    refine ⟨pm_blt hb, ?_⟩
    revert h
    cases hk : pm_kd k with
    | none => intro h; cases h
    | some d =>
      rcases d with a | a
      · intro h
        simp at h
        rw [h]
      · intro h; cases h
theorem pm_arr_spec {n k : Nat} {a : Nat × Nat} (h : pm_arr n k = some a) : k < n ∧ pm_kd k = some (.inr a) := by
  unfold pm_arr at h
  cases hb : Nat.blt k n with
  | false => rw [hb] at h; cases h
  | true =>
    rw [hb] at h
    refine ⟨pm_blt hb, ?_⟩
    revert h
    cases hk : pm_kd k with
    | none => intro h; cases h
    | some d =>
      rcases d with a | a
      · intro h; cases h
      · intro h
        simp at h
        rw [h]
theorem pm_kx_of {k : Nat} {d : pm_Kd} (h : pm_kd k = some d) : pm_kx k = d := by
  unfold pm_kx
  rw [h]
  rfl
theorem pm_ib_in {i : Int32} {len : Nat} (h : pm_ib i len = true) : vp_in i len := by
  unfold pm_ib at h
  simp only [Bool.and_eq_true, Bool.not_eq_true', decide_eq_false_iff_not] at h
  intro q
  rcases q with q | q
  · exact h.1 q
  · have := pm_blt h.2
    omega
end
section
/-! The words, the contract, and what a row of code must keep to. -/
def pm_ga : List Cond := pm_tb.filter goodWord
def pm_has (w : Cond) : Bool := decide (w ∈ pm_tb) && goodWord w
theorem pm_in {w : Cond} (h : pm_has w = true) : w ∈ pm_ga := by
  simp only [pm_has, Bool.and_eq_true, decide_eq_true_eq] at h
  exact List.mem_filter.mpr h
theorem pm_goodIn {ws : List Cond} (h : ∀ w ∈ ws, w ∈ pm_ga) : GoodIn pm_ga ws := fun w hw => ⟨h w hw, good_of_word (List.mem_filter.mp (h w hw)).2⟩
def pm_isN : Cond → Bool
  | .methodLinkNest _ _ _ _ => true
  | .declares _ => true
  | _ => false
def pm_hasN (w : Cond) : Bool := decide (w ∈ pm_tb) && pm_isN w
def pm_tys (c : Nat → ClassId) : List (ClassId × FieldType) := [(c 0, .int), (c 1, .boolean), (c 2, .object "PlatformDoors$Frame"), (c 3, .object "PlatformDoors$Leaf")]
def pm_K (G : pm_G) (U : State) : Prop := va_K G.1 pm_cl (pm_tys G.2.1) U ∧ (∀ w, pm_hasN w = true → va_Nw w U) ∧ va_AO "PlatformDoors$Frame" U ∧ va_AO "PlatformDoors$Leaf" U
theorem pm_isN_cases {w : Cond} (h : pm_isN w = true) : (∃ a i x b, w = .methodLinkNest a i x b) ∨ ∃ x, w = .declares x := by
  cases w <;> first | (exact Or.inl ⟨_, _, _, _, rfl⟩) | (exact Or.inr ⟨_, rfl⟩) | (exact absurd h (by decide)) | (simp [pm_isN] at h)
theorem pm_K.moved {G : pm_G} {s U : State} (hW : s.WarmedH U.vm) (h : pm_K G s) : pm_K G U := by
  refine ⟨va_K.moved hW.alike h.1, fun w hw => ?_, va_AO.moved hW.alike h.2.2.1, va_AO.moved hW.alike h.2.2.2⟩
  have h1 := h.2.1 w hw
  simp only [pm_hasN, Bool.and_eq_true] at hw
  rcases pm_isN_cases hw.2 with ⟨a, i, x, b, rfl⟩ | ⟨x, rfl⟩
  · exact va_Nw.warmM hW h1
  · exact va_Nw.warmD hW h1
theorem pm_K.same {G : pm_G} {u U : State} (hv : u.vm = U.vm) (h : pm_K G u) : pm_K G U := by
  have ha : u.vm.Alike U.vm := by rw [hv]; exact Vm.Alike.refl _
  refine ⟨va_K.moved ha h.1, fun w hw => ?_, va_AO.moved ha h.2.2.1, va_AO.moved ha h.2.2.2⟩
  have h1 := h.2.1 w hw
  simp only [pm_hasN, Bool.and_eq_true] at hw
  rcases pm_isN_cases hw.2 with ⟨a, i, x, b, rfl⟩ | ⟨x, rfl⟩
  · exact va_Nw.same rfl hv h1
  · exact va_Nw.same rfl hv h1
/-- the script lies below all places -/
def pm_X (G : pm_G) (sc : pm_Sc) (U : State) (H : Heap) : Prop := va_X G.2.2.2 sc.1 sc.2 U H ∧ G.2.2.2 < G.2.2.1
def pm_rm (d mc ms : Nat) : Room := { frames := d + 1, cells := mc, slots := ms, locals := 30 * (d + 1) }
def pm_sz (k : Nat) : Nat := match pm_kx k with
  | .inl ci => (pm_fs0 ci).length
  | .inr a => a.2
def pm_sl : Nat → Nat
  | 0 => 0
  | n + 1 => pm_sl n + pm_sz n
theorem pm_sl_le {a b : Nat} (h : a ≤ b) : pm_sl a ≤ pm_sl b := by
  induction h with
  | refl => exact Nat.le_refl _
  | step _ ih => exact Nat.le_trans ih (Nat.le_add_right _ _)
abbrev pm_Mt : Type := MethodName × ByteArray × Nat × Option FieldType × pm_Cd × Nat
def pm_Q (G : pm_G) (v : Option Value) (u : pm_S) : Array Value → State → Outcome → State → Prop := fun _ st oc t => oc = .returned v ∧ pm_H G u t.heap ∧ va_F (pm_A G) st t
def pm_Pc (G : pm_G) (sc : pm_Sc) (av : List pm_V) (u : pm_S) : Array Value → State → Prop := va_Pc (av.map (pm_vl G.2.2.1 G.2.2.2)) (fun U => pm_H G u U.heap ∧ pm_K G U ∧ pm_X G sc U U.heap)
/-- the contract: from memory u, with the arguments av, the method M answers v and leaves memory u' -/
def pm_M (l : Launch) (G : pm_G) (sc : pm_Sc) (d : Nat) (M : pm_Mt) (av : List pm_V) (u : pm_S) (v : Option pm_V) (u' : pm_S) : Prop :=
  Met l M.1 (.code M.1 M.2.1 M.2.2.1 M.2.2.2.1 :: pm_ga) (pm_rm d (u'.1 - u.1) (pm_sl u'.1 - pm_sl u.1)) (pm_Pc G sc av u) (pm_Q G (v.map (pm_vl G.2.2.1 G.2.2.2)) u') (u'.1 - u.1) (pm_sl u'.1 - pm_sl u.1) (pm_A G)
theorem pm_blind (G : pm_G) (sc : pm_Sc) (av : List pm_V) (u : pm_S) : FrameBlind (pm_Pc G sc av u) := fun a U g mk h => ⟨h.1, h.2.1, pm_K.same (u := U) (U := U.calling g mk a) rfl h.2.2.1, va_X.moved (u := U) (U := U.calling g mk a) (Vm.Alike.refl U.vm) h.2.2.2.1, h.2.2.2.2⟩
/-! rows of code: what is checked of each, by computation -/
def pm_len (ins : Jvm.ClassFile.Instr) (d : Nat) : Nat := match ins with
  | .bipush _ => 2
  | .iload _ => 2
  | .aload _ => 2
  | .istore _ => 2
  | .astore _ => 2
  | .ldc _ => 2
  | .newarray _ => 2
  | .sipush _ => 3
  | .iinc _ _ => 3
  | .ifCond _ _ => 3
  | .if_icmp _ _ => 3
  | .goto _ => 3
  | .getfield _ => 3
  | .putfield _ => 3
  | .new _ => 3
  | .anewarray _ => 3
  | .invokevirtual _ => 3
  | .invokespecial _ => 3
  | .invokestatic _ => 3
  | .tableswitch _ _ _ _ => d
  | _ => 1
def pm_refs : List String := ["PlatformDoors", "PlatformDoors$Frame", "PlatformDoors$Leaf", "PlatformDoors$Line", "PlatformDoors$Platform", "PlatformDoors$Train", "PlatformDoorsModel", "PlatformDoors$Side"]
def pm_fok (own : String) (i ci j ty : Nat) : Bool := match pm_fd[ci]? with
  | some (_, fs) => (match fs[j]? with
    | some (D, nm, ds, _, t) => Nat.beq t ty && pm_refs.any (fun ref => pm_has (.fieldLink own i ref nm ds) && (decide (ref = D) || pm_has (.sameField ref D nm ds)))
    | none => false)
  | none => false
def pm_fin (own : String) (ini : Bool) (ci j : Nat) : Bool := match (pm_fs0 ci)[j]? with
  | some (D, _, _, fin, _) => !fin || (ini && decide (D = own))
  | none => false
def pm_desc (y : MethodName) (na : Nat) : Bool := decide (y.cls ≠ "java/lang/invoke/MethodHandle") && decide (y.cls ≠ "java/lang/invoke/VarHandle") && decide ((parseMethodDescriptor y.desc).map (fun d => d.parameters.length) = some na)
def pm_host : String := "PlatformDoors"
/-- the callee: its code's word is there, its arguments fit -/
def pm_okc (MT : List pm_Mt) (mi na : Nat) (k : pm_Mt → Bool) : Bool := match MT[mi]? with
  | some M => pm_has (.code M.1 M.2.1 M.2.2.1 M.2.2.2.1) && pm_has (.initialized M.1.cls) && Nat.ble na M.2.2.1 && Nat.ble M.2.2.1 11 && k M
  | none => false
def pm_okv (own : String) (i na : Nat) (xc C : String) (y : MethodName) : Bool :=
  pm_desc y na && pm_has (.instanceMethod y) && (
    (decide (xc = y.cls) && decide (y.cls = C) && pm_has (.selects C y y) && (pm_has (.methodLink own i y) || pm_hasN (.methodLinkNest own i y pm_host))) ||
    (pm_has (.methodLink own i ⟨xc, y.name, y.desc⟩) && pm_has (.selects C ⟨xc, y.name, y.desc⟩ y) && (pm_has (.sameMethod xc y.cls y.name y.desc) ||
      (pm_has (.sameMethod xc xc y.name y.desc) && pm_hasN (.declares ⟨xc, y.name, y.desc⟩) && pm_desc ⟨xc, y.name, y.desc⟩ na))))
def pm_okp (MT : List pm_Mt) (own : String) (i na xn : Nat) : List Nat → Bool
  | ci :: mi :: t => Nat.blt ci 7 && pm_okc MT mi (na + 1) (fun M => pm_okv own i na (pm_cn xn) (pm_cn ci) M.1) && pm_okp MT own i na xn t
  | _ => true
def pm_oki (MT : List pm_Mt) (M : pm_Mt) (pc : Nat) (ins : Jvm.ClassFile.Instr) (ax : List Nat) : Bool := match ins with
  | .bipush n => decide ((Int8.ofInt n).toInt32 = Int32.ofInt n)
  | .sipush n => decide ((Int16.ofInt n).toInt32 = Int32.ofInt n)
  | .ldc i => pm_has (.constant M.1.cls i (pm_con ax))
  | .istore_n k => Nat.blt k.val M.2.2.1
  | .istore k => Nat.blt k M.2.2.1
  | .astore_n k => Nat.blt k.val M.2.2.1
  | .astore k => Nat.blt k M.2.2.1
  | .iinc k _ => Nat.blt k M.2.2.1
  | .ifCond _ off => decide ((pc : Int) + off = ((ax.headD 0 : Nat) : Int))
  | .if_icmp _ off => decide ((pc : Int) + off = ((ax.headD 0 : Nat) : Int))
  | .goto off => decide ((pc : Int) + off = ((ax.headD 0 : Nat) : Int))
  | .getfield i => (match ax with | j :: ty :: cis => cis.all (fun ci => pm_fok M.1.cls i ci j ty) | _ => true)
  | .putfield i => (match ax with | j :: ty :: _ :: cis => cis.all (fun ci => pm_fok M.1.cls i ci j ty && pm_fin M.1.cls (decide (M.1.name = "<init>")) ci j) | _ => true)
  | .new i => (match ax with | ci :: _ => Nat.blt ci 7 && pm_has (.classLink M.1.cls i (pm_cn ci)) && pm_has (.instantiable (pm_cn ci) (pm_fs0 ci).length) && pm_has (.initialized (pm_cn ci)) | _ => true)
  | .newarray a => (match ax with | [t] => (decide (a = .int) && Nat.beq t 0 && pm_has (.arrayClass .int)) || (decide (a = .boolean) && Nat.beq t 1 && pm_has (.arrayClass .boolean)) | _ => true)
  | .anewarray i => (match ax with | [t] => (Nat.beq t 2 && pm_has (.classLink M.1.cls i "PlatformDoors$Frame")) || (Nat.beq t 3 && pm_has (.classLink M.1.cls i "PlatformDoors$Leaf")) | _ => true)
  | .invokevirtual i => (match ax with | na :: xn :: ps => pm_okp MT M.1.cls i na xn ps | _ => true)
  | .invokespecial i => (match ax with
    | [] => pm_has (.methodLink M.1.cls i Lib.objectInit) && pm_has (.instanceMethod Lib.objectInit) && pm_has (.code Lib.objectInit ⟨#[0xb1]⟩ 1 none)
    | na :: mi :: _ => pm_okc MT mi (na + 1) (fun N => pm_desc N.1 na && decide (N.1.name = "<init>") && decide (N.2.2.2.1 = none) && pm_has (.instanceMethod N.1) && (pm_has (.methodLink M.1.cls i N.1) || pm_hasN (.methodLinkNest M.1.cls i N.1 pm_host)))
    | _ => true)
  | .invokestatic i => (match ax with
    | [0] => pm_has (.methodLink M.1.cls i Lib.Math.max.name) && pm_has (.static Lib.Math.max.name) && pm_has (.initialized "java/lang/Math") && pm_has (.code Lib.Math.max.name Lib.Math.max.code 2 (some .int))
    | [1] => pm_has (.methodLink M.1.cls i Lib.Math.min.name) && pm_has (.static Lib.Math.min.name) && pm_has (.initialized "java/lang/Math") && pm_has (.code Lib.Math.min.name Lib.Math.min.code 2 (some .int))
    | na :: mi :: _ => pm_okc MT mi na (fun N => pm_desc N.1 na && pm_has (.static N.1) && ((decide (N.1.cls = M.1.cls) && pm_has (.methodLink M.1.cls i N.1)) || pm_hasN (.methodLinkNest M.1.cls i N.1 pm_host)))
    | _ => true)
  | .tableswitch d lo hi offs => (match ax with
    | t0 :: ts => decide (lo = 0) && decide (hi + 1 = (ts.length : Int)) && decide ((pc : Int) + d = ((t0 : Nat) : Int)) && decide (offs.toList.map (fun o => (pc : Int) + o) = ts.map (fun (t : Nat) => (t : Int))) && Nat.blt ts.length 1000
    | _ => true)
  | _ => true
def pm_okb (MT : List pm_Mt) (M : pm_Mt) (row : pm_Row) : Bool := decide (decode M.2.1 row.1 = .ok (row.2.1, pm_len row.2.1 (row.2.2.1 - row.1))) && Nat.beq row.2.2.1 (row.1 + pm_len row.2.1 (row.2.2.1 - row.1)) && pm_oki MT M row.1 row.2.1 row.2.2.2
def pm_rko (ret : Option FieldType) (rk : Nat) : Bool := match ret, rk with
  | none, 0 => true
  | some .int, 1 => true
  | some .boolean, 2 => true
  | some (.object _), 3 => true
  | _, _ => false
def pm_okm (MT : List pm_Mt) (M : pm_Mt) : Bool := plainName M.1.cls && pm_rko M.2.2.2.1 M.2.2.2.2.2 && M.2.2.2.2.1.all (fun ch => ch.all (pm_okb MT M))
theorem pm_look_mem : ∀ (rows : List pm_Row) (pc : Nat) (a : Jvm.ClassFile.Instr × Nat × List Nat), pm_look rows pc = some a → (pc, a) ∈ rows
  | [], _, _, h => by cases h
  | (k, b) :: t, pc, a, h => by
    unfold pm_look at h
    cases hk : Nat.beq k pc with
    | true =>
      rw [hk] at h
      have e1 := pm_beq hk
      have e2 : b = a := Option.some.inj h
      subst e1; subst e2
      exact List.mem_cons_self
    | false =>
      rw [hk] at h
      exact List.mem_cons_of_mem _ (pm_look_mem t pc a h)
theorem pm_find_ok {MT : List pm_Mt} {M : pm_Mt} (h : pm_okm MT M = true) {pc nx : Nat} {ins : Jvm.ClassFile.Instr} {ax : List Nat} (hf : pm_find M.2.2.2.2.1 pc = some (ins, nx, ax)) : decode M.2.1 pc = .ok (ins, pm_len ins (nx - pc)) ∧ nx = pc + pm_len ins (nx - pc) ∧ pm_oki MT M pc ins ax = true := by
  simp only [pm_okm, Bool.and_eq_true] at h
  have hm := pm_look_mem _ _ _ hf
  have hch : (M.2.2.2.2.1.getD (pc / 16) []).all (pm_okb MT M) = true := by
    by_cases hl : pc / 16 < M.2.2.2.2.1.length
    · have h2 := List.all_eq_true.mp h.2 (M.2.2.2.2.1[pc / 16]) (List.getElem_mem hl)
      rw [List.getD_eq_getElem?_getD, List.getElem?_eq_getElem hl]
      exact h2
    · rw [List.getD_eq_getElem?_getD, List.getElem?_eq_none (Nat.not_lt.mp hl)]
      rfl
  have h3 := List.all_eq_true.mp hch _ hm
  simp only [pm_okb, Bool.and_eq_true, decide_eq_true_eq] at h3
  exact ⟨h3.1.1, pm_beq h3.1.2, h3.2⟩
end
section
/-! What my small machine does in one step, the model does: instructions that don't touch the memory. -/
abbrev pm_lvv (z b : Nat) (lv : pm_Lv) : List (Nat × Value) := lv.map (fun q => (q.1, pm_vl z b q.2))
theorem pm_lget_mem : ∀ (lv : pm_Lv) (i : Nat) (v : pm_V), pm_lget lv i = some v → (i, v) ∈ lv
  | [], _, _, h => by cases h
  | (k, w) :: t, i, v, h => by
    unfold pm_lget at h
    cases hk : Nat.beq k i with
    | true =>
      rw [hk] at h
      have e1 := pm_beq hk
      have e2 : w = v := Option.some.inj h
      subst e1; subst e2
      exact List.mem_cons_self
    | false =>
      rw [hk] at h
      exact List.mem_cons_of_mem _ (pm_lget_mem t i v h)
theorem pm_at {ls : Array Slot} {nL z b i : Nat} {lv : pm_Lv} {v : pm_V} (hl : lv_has ls nL (pm_lvv z b lv)) (h : pm_lget lv i = some v) : ls[i]? = some (.val (pm_vl z b v)) := hl.2.2 (i, pm_vl z b v) (List.mem_map.mpr ⟨(i, v), pm_lget_mem lv i v h, rfl⟩)
theorem pm_ldel_eq (z b i : Nat) : ∀ lv : pm_Lv, (pm_lvv z b lv).filter (fun q => !(q.1 == i) && !(q.1 + 1 == i && q.2.category == 2)) = pm_lvv z b (pm_ldel lv i)
  | [] => rfl
  | (k, w) :: t => by
    have ih := pm_ldel_eq z b i t
    have hc : ((pm_vl z b w).category == 2) = false := by rw [pm_cat]; rfl
    show List.filter _ ((k, pm_vl z b w) :: pm_lvv z b t) = pm_lvv z b (bif Nat.beq k i then pm_ldel t i else (k, w) :: pm_ldel t i)
    rw [List.filter_cons]
    cases hk : Nat.beq k i with
    | true =>
      have e1 := pm_beq hk
      subst e1
      simp only [beq_self_eq_true, Bool.not_true, Bool.false_and, cond_true]
      rw [if_neg (by decide)]
      exact ih
    | false =>
      have e1 : (k == i) = false := by
        cases hb : (k == i) with
        | false => rfl
        | true =>
          have := eq_of_beq hb
          subst this
          rw [Nat.beq_refl] at hk
          cases hk
      simp only [e1, hc, Bool.and_false, Bool.not_false, Bool.and_self, cond_false]
      rw [if_pos trivial, ih]
      rfl
theorem pm_lset_eq (z b i : Nat) (v : pm_V) (lv : pm_Lv) : (i, pm_vl z b v) :: (pm_lvv z b lv).filter (fun q => !(q.1 == i) && !(q.1 + 1 == i && q.2.category == 2)) = pm_lvv z b (pm_lset lv i v) := by
  rw [pm_ldel_eq]
  rfl
theorem pm_ld_spec {v : Option pm_V} {kg : pm_V → Prop} (h : pm_ld v kg False) : ∃ w, v = some w ∧ kg w ∧ ∀ z b, ∃ y, pm_vl z b w = .int y := by
  rcases v with _ | x | w | q
  · exact h.elim
  · exact ⟨_, rfl, h, fun _ _ => ⟨x, rfl⟩⟩
  · exact ⟨_, rfl, h, fun _ _ => ⟨_, rfl⟩⟩
  · exact h.elim
theorem pm_la_spec {v : Option pm_V} {kg : pm_V → Prop} (h : pm_la v kg False) : ∃ w, v = some w ∧ kg w ∧ ∀ z b, pm_vl z b w = .null ∨ ∃ y, pm_vl z b w = .ref y := by
  rcases v with _ | x | w | (_ | q) | q
  · exact h.elim
  · exact h.elim
  · exact h.elim
  · exact ⟨_, rfl, h, fun _ _ => Or.inl rfl⟩
  · exact ⟨_, rfl, h, fun _ _ => Or.inr ⟨_, rfl⟩⟩
  · exact ⟨_, rfl, h, fun _ _ => Or.inr ⟨_, rfl⟩⟩
theorem pm_si_spec {st : List pm_V} {kg : pm_V → List pm_V → Prop} (h : pm_si st kg False) : ∃ w st', st = w :: st' ∧ kg w st' ∧ ∀ z b, ∃ y, pm_vl z b w = .int y := by
  rcases st with _ | ⟨x | w | q, st⟩
  · exact h.elim
  · exact ⟨_, _, rfl, h, fun _ _ => ⟨x, rfl⟩⟩
  · exact ⟨_, _, rfl, h, fun _ _ => ⟨_, rfl⟩⟩
  · exact h.elim
theorem pm_sa_spec {st : List pm_V} {kg : pm_V → List pm_V → Prop} (h : pm_sa st kg False) : ∃ w st', st = w :: st' ∧ kg w st' ∧ ∀ z b, pm_vl z b w = .null ∨ ∃ y, pm_vl z b w = .ref y := by
  rcases st with _ | ⟨x | w | (_ | q) | q, st⟩
  · exact h.elim
  · exact h.elim
  · exact h.elim
  · exact ⟨_, _, rfl, h, fun _ _ => Or.inl rfl⟩
  · exact ⟨_, _, rfl, h, fun _ _ => Or.inr ⟨_, rfl⟩⟩
  · exact ⟨_, _, rfl, h, fun _ _ => Or.inr ⟨_, rfl⟩⟩
theorem pm_op2_spec {st : List pm_V} {kg : Int32 → Int32 → List pm_V → Prop} (h : pm_op2 st kg False) : ∃ x y st', st = .inl y :: .inl x :: st' ∧ kg x y st' := by
  rcases st with _ | ⟨y | q, _ | ⟨x | q2, st⟩⟩
  · exact h.elim
  · exact h.elim
  · exact ⟨_, _, _, rfl, h⟩
  · exact h.elim
  · exact h.elim
  · exact h.elim
  · exact h.elim
theorem pm_obj_spec {n : Nat} {st : List pm_V} {kg : Nat → Nat → List pm_V → Prop} (h : pm_obj n st kg False) : ∃ k ci st', st = .inr (.inr (.inl (some k))) :: st' ∧ pm_cls n k = some ci ∧ kg k ci st' := by
  rcases st with _ | ⟨x | w | (_ | k) | q, st⟩
  · exact h.elim
  · exact h.elim
  · exact h.elim
  · exact h.elim
  · change (match pm_cls n k with | some ci => kg k ci st | none => False) at h
    cases hc : pm_cls n k with
    | none => rw [hc] at h; exact h.elim
    | some ci => rw [hc] at h; exact ⟨k, ci, st, rfl, hc, h⟩
  · exact h.elim
def pm_E (G : pm_G) (sc : pm_Sc) (M : pm_Mt) (d : Nat) (p : Program) (R : Room) (s : State) (m : MethodId) (args : Array Value) (meth : Method) (c : Code) : Prop :=
  p.tables.exec = Jvm.exec ∧ c.code = M.2.1 ∧ c.maxLocals = M.2.2.1 ∧ s.vm.findClass M.1.cls = some m.cls ∧ (∀ w ∈ pm_ga, w.before args s = true) ∧ pm_K G s ∧ pm_X G sc s s.heap ∧ (M.1.name = "<init>" → meth.name = "<init>") ∧ d + 1 ≤ R.frames ∧ 30 * (d + 1) ≤ R.locals
def pm_PW (p : Program) (l : Launch) (e : Env) (R : Room) (s : State) (m : MethodId) (args : Array Value) (below : List Frame) (meth : Method) (c : Code) (Q : State → Prop) (G : pm_G) (nL n0 : Nat) (pc : Nat) (lv : pm_Lv) (st : List pm_V) (u : pm_S) : Prop :=
  ∀ (H : Heap) (locs : List Loc) (ls : Array Slot), lv_has ls nL (pm_lvv G.2.2.1 G.2.2.2 lv) → pm_H G u H → va_S (pm_A G) s.heap H locs → n0 ≤ u.1 → W p l e R s m args below meth c H locs (u.1 - n0) (pm_sl u.1 - pm_sl n0) Q (F0 m pc ls (st.map (pm_vl G.2.2.1 G.2.2.2)))
def pm_ri (rk : Nat) : Jvm.ClassFile.Instr := match rk with
  | 0 => .return_
  | 1 => .ireturn
  | 2 => .ireturn
  | _ => .areturn
def pm_shp (rk : Nat) (v : Option pm_V) : Prop := match rk, v with
  | 0, none => True
  | 1, some (.inl _) => True
  | 2, some (.inr (.inl _)) => True
  | 3, some (.inr (.inr (.inl _))) => True
  | _, _ => False
def pm_PE (p : Program) (l : Launch) (e : Env) (R : Room) (s : State) (m : MethodId) (args : Array Value) (below : List Frame) (meth : Method) (c : Code) (Q : State → Prop) (G : pm_G) (cc : ByteArray) (rk n0 : Nat) (r : pm_Rs) : Prop :=
  ∀ (H : Heap) (locs : List Loc) (ls : Array Slot) (pc : Nat), pm_H G r.2 H → va_S (pm_A G) s.heap H locs → n0 ≤ r.2.1 → pm_shp rk r.1 → decode cc pc = .ok (pm_ri rk, 1) → W p l e R s m args below meth c H locs (r.2.1 - n0) (pm_sl r.2.1 - pm_sl n0) Q (F0 m pc ls (r.1.map (pm_vl G.2.2.1 G.2.2.2)).toList)
section PMW
variable {p : Program} {l : Launch} {e : Env} {R : Room} {s : State} {m : MethodId} {args : Array Value} {below : List Frame} {meth : Method} {c : Code} {Q : State → Prop}
variable {G : pm_G} {sc : pm_Sc} {M : pm_Mt} {d n0 nf : Nat} {MT : List pm_Mt} {cal : Nat → List pm_V → pm_S → Option pm_Rs} {pc nx : Nat} {ax : List Nat} {lv : pm_Lv} {st : List pm_V} {u : pm_S}
/-- what goes on behind a step -/
abbrev pm_kk (p : Program) (l : Launch) (e : Env) (R : Room) (s : State) (m : MethodId) (args : Array Value) (below : List Frame) (meth : Method) (c : Code) (Q : State → Prop) (G : pm_G) (nL n0 nf : Nat) : Nat → pm_Lv → List pm_V → pm_S → Prop := fun pc lv st u => u.1 ≤ nf ∧ pm_PW p l e R s m args below meth c Q G nL n0 pc lv st u
theorem pm_s_push {len : Nat} {v : Int32} (row : ∀ {H : Heap} {locs : List Loc} {cells slots : Nat} {ls : Array Slot} {rest : List Value}, W p l e R s m args below meth c H locs cells slots Q (F0 m (pc + len) ls (.int v :: rest)) → W p l e R s m args below meth c H locs cells slots Q (F0 m pc ls rest))
    (h : pm_kk p l e R s m args below meth c Q G M.2.2.1 n0 nf (pc + len) lv (.inl v :: st) u) : pm_PW p l e R s m args below meth c Q G M.2.2.1 n0 pc lv st u := fun H locs ls hl hH hS hn => row (h.2 H locs ls hl hH hS hn)
theorem pm_s_br {cd : Jvm.ClassFile.Cond} {off : Int} {tgt : Nat} {x : Int32} (E : pm_E G sc M d p R s m args meth c) (hd : decode M.2.1 pc = .ok (.ifCond cd off, 3)) (ht : (pc : Int) + off = (tgt : Int))
    (h : pm_br cd x (pm_kk p l e R s m args below meth c Q G M.2.2.1 n0 nf tgt lv st u) (pm_kk p l e R s m args below meth c Q G M.2.2.1 n0 nf (pc + 3) lv st u)) {v : pm_V} (hv : pm_vl G.2.2.1 G.2.2.2 v = .int x) : pm_PW p l e R s m args below meth c Q G M.2.2.1 n0 pc lv (v :: st) u := by
  obtain ⟨hx, hb, -⟩ := E
  intro H locs ls hl hH hS hn
  rw [List.map_cons, hv]
  cases cd
  · refine lv_if_eq hx hb hd ht (fun q => ?_) (fun q => ?_)
    · exact (by rw [show pm_br .eq x _ _ = _ from if_pos q] at h; exact h.2 H locs ls hl hH hS hn)
    · exact (by rw [show pm_br .eq x _ _ = _ from if_neg q] at h; exact h.2 H locs ls hl hH hS hn)
  · refine lv_if_ne hx hb hd ht (fun q => ?_) (fun q => ?_)
    · exact (by rw [show pm_br .ne x _ _ = _ from if_neg q] at h; exact h.2 H locs ls hl hH hS hn)
    · exact (by rw [show pm_br .ne x _ _ = _ from if_pos q] at h; exact h.2 H locs ls hl hH hS hn)
  · refine lv_if_lt hx hb hd ht (fun q => ?_) (fun q => ?_)
    · exact (by rw [show pm_br .lt x _ _ = _ from if_pos q] at h; exact h.2 H locs ls hl hH hS hn)
    · exact (by rw [show pm_br .lt x _ _ = _ from if_neg q] at h; exact h.2 H locs ls hl hH hS hn)
  · refine lv_if_ge hx hb hd ht (fun q => ?_) (fun q => ?_)
    · exact (by rw [show pm_br .ge x _ _ = _ from if_pos q] at h; exact h.2 H locs ls hl hH hS hn)
    · exact (by rw [show pm_br .ge x _ _ = _ from if_neg q] at h; exact h.2 H locs ls hl hH hS hn)
  · refine lv_if_gt hx hb hd ht (fun q => ?_) (fun q => ?_)
    · exact (by rw [show pm_br .gt x _ _ = _ from if_pos q] at h; exact h.2 H locs ls hl hH hS hn)
    · exact (by rw [show pm_br .gt x _ _ = _ from if_neg q] at h; exact h.2 H locs ls hl hH hS hn)
  · refine lv_if_le hx hb hd ht (fun q => ?_) (fun q => ?_)
    · exact (by rw [show pm_br .le x _ _ = _ from if_pos q] at h; exact h.2 H locs ls hl hH hS hn)
    · exact (by rw [show pm_br .le x _ _ = _ from if_neg q] at h; exact h.2 H locs ls hl hH hS hn)
theorem pm_s_br2 {cd : Jvm.ClassFile.Cond} {off : Int} {tgt : Nat} {x y : Int32} (E : pm_E G sc M d p R s m args meth c) (hd : decode M.2.1 pc = .ok (.if_icmp cd off, 3)) (ht : (pc : Int) + off = (tgt : Int))
    (h : pm_br2 cd x y (pm_kk p l e R s m args below meth c Q G M.2.2.1 n0 nf tgt lv st u) (pm_kk p l e R s m args below meth c Q G M.2.2.1 n0 nf (pc + 3) lv st u)) {v w : pm_V} (hv : pm_vl G.2.2.1 G.2.2.2 v = .int x) (hw : pm_vl G.2.2.1 G.2.2.2 w = .int y) : pm_PW p l e R s m args below meth c Q G M.2.2.1 n0 pc lv (w :: v :: st) u := by
  obtain ⟨hx, hb, -⟩ := E
  intro H locs ls hl hH hS hn
  rw [List.map_cons, List.map_cons, hv, hw]
  cases cd
  · refine lv_icmp_eq hx hb hd ht (fun q => ?_) (fun q => ?_)
    · exact (by rw [show pm_br2 .eq x y _ _ = _ from if_pos q] at h; exact h.2 H locs ls hl hH hS hn)
    · exact (by rw [show pm_br2 .eq x y _ _ = _ from if_neg q] at h; exact h.2 H locs ls hl hH hS hn)
  · refine lv_icmp_ne hx hb hd ht (fun q => ?_) (fun q => ?_)
    · exact (by rw [show pm_br2 .ne x y _ _ = _ from if_neg q] at h; exact h.2 H locs ls hl hH hS hn)
    · exact (by rw [show pm_br2 .ne x y _ _ = _ from if_pos q] at h; exact h.2 H locs ls hl hH hS hn)
  · refine lv_icmp_lt hx hb hd ht (fun q => ?_) (fun q => ?_)
    · exact (by rw [show pm_br2 .lt x y _ _ = _ from if_pos q] at h; exact h.2 H locs ls hl hH hS hn)
    · exact (by rw [show pm_br2 .lt x y _ _ = _ from if_neg q] at h; exact h.2 H locs ls hl hH hS hn)
  · refine lv_icmp_ge hx hb hd ht (fun q => ?_) (fun q => ?_)
    · exact (by rw [show pm_br2 .ge x y _ _ = _ from if_pos q] at h; exact h.2 H locs ls hl hH hS hn)
    · exact (by rw [show pm_br2 .ge x y _ _ = _ from if_neg q] at h; exact h.2 H locs ls hl hH hS hn)
  · refine lv_icmp_gt hx hb hd ht (fun q => ?_) (fun q => ?_)
    · exact (by rw [show pm_br2 .gt x y _ _ = _ from if_pos q] at h; exact h.2 H locs ls hl hH hS hn)
    · exact (by rw [show pm_br2 .gt x y _ _ = _ from if_neg q] at h; exact h.2 H locs ls hl hH hS hn)
  · refine lv_icmp_le hx hb hd ht (fun q => ?_) (fun q => ?_)
    · exact (by rw [show pm_br2 .le x y _ _ = _ from if_pos q] at h; exact h.2 H locs ls hl hH hS hn)
    · exact (by rw [show pm_br2 .le x y _ _ = _ from if_neg q] at h; exact h.2 H locs ls hl hH hS hn)
/-- a branch on a boolean is one on 0 or 1 -/
theorem pm_brb_br {cd : Jvm.ClassFile.Cond} {x : Bool} {A B : Prop} (h : pm_brb cd x A B False) : pm_br cd (bif x then 1 else 0) A B := by
  cases cd <;> cases x <;> first | exact h.elim | exact h | (simp [pm_brb] at h; simp [pm_br]; exact h)
theorem pm_brb2_br {cd : Jvm.ClassFile.Cond} {x y : Bool} {A B : Prop} (h : pm_brb2 cd x y A B False) : pm_br2 cd (bif x then 1 else 0) (bif y then 1 else 0) A B := by
  cases cd <;> cases x <;> cases y <;> first | exact h.elim | exact h | (simp [pm_brb2] at h; simp [pm_br2]; exact h)
theorem pm_sw_spec {x : Int32} {K : Nat → Prop} {t0 : Nat} : ∀ (ts : List Nat) (v : Nat), v + ts.length < 1000 → pm_sw x K t0 ts v → ((∃ i t, ts[i]? = some t ∧ x = Int32.ofNat (v + i) ∧ K t) ∨ ((∀ i, i < ts.length → x ≠ Int32.ofNat (v + i)) ∧ K t0))
  | [], v, _, h => Or.inr ⟨fun i hi => absurd hi (Nat.not_lt_zero i), h⟩
  | t :: ts, v, hv, h => by
    have hv' : v + 1 + ts.length < 1000 := by simp at hv; omega
    by_cases q : x = Int32.ofNat v
    · rw [show pm_sw x K t0 (t :: ts) v = _ from if_pos q] at h
      exact Or.inl ⟨0, t, rfl, q, h⟩
    · rw [show pm_sw x K t0 (t :: ts) v = _ from if_neg q] at h
      rcases pm_sw_spec ts (v + 1) hv' h with ⟨i, t', h1, h2, h3⟩ | ⟨h1, h2⟩
      · exact Or.inl ⟨i + 1, t', h1, by rw [h2]; congr 1; omega, h3⟩
      · refine Or.inr ⟨fun i hi => ?_, h2⟩
        rcases i with _ | i
        · exact q
        · have := h1 i (by simp at hi; omega)
          rw [show v + (i + 1) = v + 1 + i by omega]
          exact this
def pm_mem (ins : Jvm.ClassFile.Instr) : Bool := match ins with
  | .getfield _ => true
  | .putfield _ => true
  | .iaload => true
  | .baload => true
  | .aaload => true
  | .iastore => true
  | .bastore => true
  | .aastore => true
  | .arraylength => true
  | .new _ => true
  | .newarray _ => true
  | .anewarray _ => true
  | .invokevirtual _ => true
  | .invokespecial _ => true
  | .invokestatic _ => true
  | _ => false
/-- the instructions that don't touch the memory -/
theorem pm_s_plain {ins : Jvm.ClassFile.Instr} {rk : Nat} (E : pm_E G sc M d p R s m args meth c) (hd : decode M.2.1 pc = .ok (ins, pm_len ins (nx - pc))) (hnx : nx = pc + pm_len ins (nx - pc)) (ho : pm_oki MT M pc ins ax = true) (hrk : M.2.2.2.2.2 = rk) (hu : u.1 ≤ nf)
    (hp : pm_mem ins = false)
    (h : pm_do cal sc rk ins nx ax lv st u (pm_kk p l e R s m args below meth c Q G M.2.2.1 n0 nf) (pm_PE p l e R s m args below meth c Q G M.2.1 rk n0) False) : pm_PW p l e R s m args below meth c Q G M.2.2.1 n0 pc lv st u := by
  have E0 := E
  obtain ⟨hx, hb, -, hown, hga, -⟩ := E
  cases ins
  case iconst n => simp only [pm_len] at hnx hd; subst hnx; exact pm_s_push (fun k => lv_iconst hx hb hd rfl k) h
  case bipush n => simp only [pm_len] at hnx hd; subst hnx; exact pm_s_push (fun k => lv_bipush hx hb hd (of_decide_eq_true ho) k) h
  case sipush n => simp only [pm_len] at hnx hd; subst hnx; exact pm_s_push (fun k => lv_sipush hx hb hd (of_decide_eq_true ho) k) h
  case ldc i => simp only [pm_len] at hnx hd; subst hnx; exact pm_s_push (fun k => lv_ldc hx hb hown (hga _ (pm_in ho)) hd k) h
  case iload_n k =>
    simp only [pm_len] at hnx hd; subst hnx
    obtain ⟨w, hw, hk, hy⟩ := pm_ld_spec (by simpa only [pm_do] using h)
    obtain ⟨y, hy⟩ := hy G.2.2.1 G.2.2.2
    intro H locs ls hl hH hS hn
    have k1 := hk.2 H locs ls hl hH hS hn
    rw [List.map_cons, hy] at k1
    exact lv_iload_n hx hb hd rfl (by rw [pm_at hl hw, hy]) k1
  case iload i =>
    simp only [pm_len] at hnx hd; subst hnx
    obtain ⟨w, hw, hk, hy⟩ := pm_ld_spec (by simpa only [pm_do] using h)
    obtain ⟨y, hy⟩ := hy G.2.2.1 G.2.2.2
    intro H locs ls hl hH hS hn
    have k1 := hk.2 H locs ls hl hH hS hn
    rw [List.map_cons, hy] at k1
    exact lv_iload hx hb hd (by rw [pm_at hl hw, hy]) k1
  case aload_n k =>
    simp only [pm_len] at hnx hd; subst hnx
    obtain ⟨w, hw, hk, hy⟩ := pm_la_spec (by simpa only [pm_do] using h)
    intro H locs ls hl hH hS hn
    have k1 := hk.2 H locs ls hl hH hS hn
    rcases hy G.2.2.1 G.2.2.2 with hy | ⟨y, hy⟩
    · rw [List.map_cons, hy] at k1
      exact lv_aload_nN hx hb hd rfl (by rw [pm_at hl hw, hy]) k1
    · rw [List.map_cons, hy] at k1
      exact lv_aload_n hx hb hd rfl (by rw [pm_at hl hw, hy]) k1
  case aload i =>
    simp only [pm_len] at hnx hd; subst hnx
    obtain ⟨w, hw, hk, hy⟩ := pm_la_spec (by simpa only [pm_do] using h)
    intro H locs ls hl hH hS hn
    have k1 := hk.2 H locs ls hl hH hS hn
    rcases hy G.2.2.1 G.2.2.2 with hy | ⟨y, hy⟩
    · rw [List.map_cons, hy] at k1
      exact lv_aloadN hx hb hd (by rw [pm_at hl hw, hy]) k1
    · rw [List.map_cons, hy] at k1
      exact lv_aload hx hb hd (by rw [pm_at hl hw, hy]) k1
  case istore_n k =>
    simp only [pm_len] at hnx hd; subst hnx
    obtain ⟨w, st', rfl, hk, hy⟩ := pm_si_spec (by simpa only [pm_do] using h)
    obtain ⟨y, hy⟩ := hy G.2.2.1 G.2.2.2
    intro H locs ls hl hH hS hn
    rw [List.map_cons, hy]
    exact lv_istore_n hx hb hd rfl hl (pm_blt ho) (by rw [← hy]; exact pm_lset_eq _ _ _ _ _) (fun ls' hl' => hk.2 H locs ls' hl' hH hS hn)
  case istore i =>
    simp only [pm_len] at hnx hd; subst hnx
    obtain ⟨w, st', rfl, hk, hy⟩ := pm_si_spec (by simpa only [pm_do] using h)
    obtain ⟨y, hy⟩ := hy G.2.2.1 G.2.2.2
    intro H locs ls hl hH hS hn
    rw [List.map_cons, hy]
    exact lv_istore hx hb hd hl (pm_blt ho) (by rw [← hy]; exact pm_lset_eq _ _ _ _ _) (fun ls' hl' => hk.2 H locs ls' hl' hH hS hn)
  case astore_n k =>
    simp only [pm_len] at hnx hd; subst hnx
    obtain ⟨w, st', rfl, hk, hy⟩ := pm_sa_spec (by simpa only [pm_do] using h)
    intro H locs ls hl hH hS hn
    rcases hy G.2.2.1 G.2.2.2 with hy | ⟨y, hy⟩
    · rw [List.map_cons, hy]
      exact lv_astore_nN hx hb hd rfl hl (pm_blt ho) (by rw [← hy]; exact pm_lset_eq _ _ _ _ _) (fun ls' hl' => hk.2 H locs ls' hl' hH hS hn)
    · rw [List.map_cons, hy]
      exact lv_astore_n hx hb hd rfl hl (pm_blt ho) (by rw [← hy]; exact pm_lset_eq _ _ _ _ _) (fun ls' hl' => hk.2 H locs ls' hl' hH hS hn)
  case astore i =>
    simp only [pm_len] at hnx hd; subst hnx
    obtain ⟨w, st', rfl, hk, hy⟩ := pm_sa_spec (by simpa only [pm_do] using h)
    intro H locs ls hl hH hS hn
    rcases hy G.2.2.1 G.2.2.2 with hy | ⟨y, hy⟩
    · rw [List.map_cons, hy]
      exact lv_astoreN hx hb hd hl (pm_blt ho) (by rw [← hy]; exact pm_lset_eq _ _ _ _ _) (fun ls' hl' => hk.2 H locs ls' hl' hH hS hn)
    · rw [List.map_cons, hy]
      exact lv_astore hx hb hd hl (pm_blt ho) (by rw [← hy]; exact pm_lset_eq _ _ _ _ _) (fun ls' hl' => hk.2 H locs ls' hl' hH hS hn)
  case iinc i n =>
    simp only [pm_len] at hnx hd; subst hnx
    change (match pm_lget lv i with | some (.inl x) => pm_kk p l e R s m args below meth c Q G M.2.2.1 n0 nf (pc + 3) (pm_lset lv i (.inl (x + Int32.ofInt n))) st u | _ => False) at h
    cases hw : pm_lget lv i with
    | none => rw [hw] at h; exact h.elim
    | some w =>
      rw [hw] at h
      rcases w with x | w
      · intro H locs ls hl hH hS hn
        obtain ⟨k, hk⟩ := List.getElem?_of_mem (show (i, Value.int x) ∈ pm_lvv G.2.2.1 G.2.2.2 lv from List.mem_map.mpr ⟨(i, .inl x), pm_lget_mem lv i _ hw, rfl⟩)
        exact lv_iinc hx hb hd hl hk rfl (pm_blt ho) (pm_lset_eq _ _ i (.inl (x + Int32.ofInt n)) lv) (fun ls' hl' => h.2 H locs ls' hl' hH hS hn)
      · exact h.elim
  case iadd => simp only [pm_len] at hnx hd; subst hnx; obtain ⟨x, y, st', rfl, hk⟩ := pm_op2_spec h; exact fun H locs ls hl hH hS hn => lv_iadd hx hb hd (hk.2 H locs ls hl hH hS hn)
  case isub => simp only [pm_len] at hnx hd; subst hnx; obtain ⟨x, y, st', rfl, hk⟩ := pm_op2_spec h; exact fun H locs ls hl hH hS hn => lv_isub hx hb hd (hk.2 H locs ls hl hH hS hn)
  case imul => simp only [pm_len] at hnx hd; subst hnx; obtain ⟨x, y, st', rfl, hk⟩ := pm_op2_spec h; exact fun H locs ls hl hH hS hn => lv_imul hx hb hd (hk.2 H locs ls hl hH hS hn)
  case iand => simp only [pm_len] at hnx hd; subst hnx; obtain ⟨x, y, st', rfl, hk⟩ := pm_op2_spec h; exact fun H locs ls hl hH hS hn => lv_iand hx hb hd (hk.2 H locs ls hl hH hS hn)
  case ior => simp only [pm_len] at hnx hd; subst hnx; obtain ⟨x, y, st', rfl, hk⟩ := pm_op2_spec h; exact fun H locs ls hl hH hS hn => lv_ior hx hb hd (hk.2 H locs ls hl hH hS hn)
  case ishl => simp only [pm_len] at hnx hd; subst hnx; obtain ⟨x, y, st', rfl, hk⟩ := pm_op2_spec h; exact fun H locs ls hl hH hS hn => lv_ishl hx hb hd (hk.2 H locs ls hl hH hS hn)
  case ishr => simp only [pm_len] at hnx hd; subst hnx; obtain ⟨x, y, st', rfl, hk⟩ := pm_op2_spec h; exact fun H locs ls hl hH hS hn => lv_ishr hx hb hd (hk.2 H locs ls hl hH hS hn)
  case idiv =>
    simp only [pm_len] at hnx hd; subst hnx
    obtain ⟨x, y, st', rfl, hk⟩ := pm_op2_spec h
    by_cases hy : y = 0
    · rw [if_pos hy] at hk; exact hk.elim
    · rw [if_neg hy] at hk; exact fun H locs ls hl hH hS hn => lv_idiv hx hb hd hy (hk.2 H locs ls hl hH hS hn)
  case irem =>
    simp only [pm_len] at hnx hd; subst hnx
    obtain ⟨x, y, st', rfl, hk⟩ := pm_op2_spec h
    by_cases hy : y = 0
    · rw [if_pos hy] at hk; exact hk.elim
    · rw [if_neg hy] at hk; exact fun H locs ls hl hH hS hn => lv_irem hx hb hd hy (hk.2 H locs ls hl hH hS hn)
  case dup =>
    simp only [pm_len] at hnx hd; subst hnx
    rcases st with _ | ⟨v, st⟩
    · exact h.elim
    · exact fun H locs ls hl hH hS hn => lv_dup hx hb hd (pm_cat _ _ v) (h.2 H locs ls hl hH hS hn)
  case dup2 =>
    simp only [pm_len] at hnx hd; subst hnx
    rcases st with _ | ⟨v, _ | ⟨w, st⟩⟩
    · exact h.elim
    · exact h.elim
    · exact fun H locs ls hl hH hS hn => lv_dup2_11 hx hb hd (pm_cat _ _ v) (pm_cat _ _ w) (h.2 H locs ls hl hH hS hn)
  case goto off => exact fun H locs ls hl hH hS hn => lv_goto hx hb hd (of_decide_eq_true ho) (h.2 H locs ls hl hH hS hn)
  case ifCond cd off =>
    simp only [pm_len] at hnx hd; subst hnx
    rcases st with _ | ⟨x | w | q, st⟩
    · exact h.elim
    · exact pm_s_br E0 hd (of_decide_eq_true ho) h rfl
    · exact pm_s_br E0 hd (of_decide_eq_true ho) (pm_brb_br h) rfl
    · exact h.elim
  case if_icmp cd off =>
    simp only [pm_len] at hnx hd; subst hnx
    rcases st with _ | ⟨y | y | q, _ | ⟨x | x | q2, st⟩⟩
    · exact h.elim
    · exact h.elim
    · exact pm_s_br2 E0 hd (of_decide_eq_true ho) h rfl rfl
    · exact h.elim
    · exact h.elim
    · exact h.elim
    · exact h.elim
    · exact pm_s_br2 E0 hd (of_decide_eq_true ho) (pm_brb2_br h) rfl rfl
    · exact h.elim
    · exact h.elim
    · exact h.elim
    · exact h.elim
    · exact h.elim
  case tableswitch dd lo hi offs =>
    rcases ax with _ | ⟨t0, ts⟩
    · exact h.elim
    · rcases st with _ | ⟨x | w, st⟩
      · exact h.elim
      · simp only [pm_oki, Bool.and_eq_true, decide_eq_true_eq] at ho
        obtain ⟨⟨⟨⟨hlo, hhi⟩, hdf⟩, hof⟩, hts⟩ := ho
        have hts' := pm_blt hts
        intro H locs ls hl hH hS hn
        rcases pm_sw_spec ts 0 (by omega) h with ⟨i, t, h1, h2, h3⟩ | ⟨h1, h2⟩
        · have hi : i < ts.length := (List.getElem?_eq_some_iff.mp h1).1
          have hxi : x.toInt = (i : Int) := by rw [h2, Nat.zero_add]; exact nI_toInt (by omega)
          have ho2 : (offs.toList.map (fun o => (pc : Int) + o))[i]? = some (t : Int) := by rw [hof, List.getElem?_map, h1]; rfl
          rw [List.getElem?_map] at ho2
          cases hq : offs.toList[i]? with
          | none => rw [hq] at ho2; cases ho2
          | some o =>
            rw [hq] at ho2
            refine lv_tableIn hx hb hd (by rw [hxi, hlo]; omega) (by rw [hxi]; omega) (off := o) ?_ (Option.some.inj ho2) (h3.2 H locs ls hl hH hS hn)
            rw [hxi, hlo, show ((i : Int) - 0).toNat = i by omega, ← Array.getElem?_toList]
            exact hq
        · refine lv_tableOut hx hb hd ?_ hdf (h2.2 H locs ls hl hH hS hn)
          by_cases hneg : x.toInt < 0
          · exact Or.inl (by rw [hlo]; exact hneg)
          · refine Or.inr ?_
            by_cases hbig : hi < x.toInt
            · exact hbig
            · exfalso
              have := h1 x.toInt.toNat (by omega)
              apply this
              rw [Nat.zero_add]
              apply Int32.toInt_inj.mp
              rw [show (Int32.ofNat x.toInt.toNat).toInt = (x.toInt.toNat : Int) from nI_toInt (by omega)]
              omega
      · exact h.elim
  case ireturn =>
    have hd1 : decode M.2.1 pc = .ok (.ireturn, 1) := hd
    rcases rk with _ | _ | _ | rk
    · exact h.elim
    · rcases st with _ | ⟨x | w, _ | ⟨v2, st⟩⟩
      · exact h.elim
      · exact fun H locs ls hl hH hS hn => h H locs ls pc hH hS hn trivial hd1
      · exact h.elim
      · exact h.elim
      · exact h.elim
    · rcases st with _ | ⟨x | w | q, _ | ⟨v2, st⟩⟩
      · exact h.elim
      · change (if x = 0 then _ else if x = 1 then _ else False) at h
        intro H locs ls hl hH hS hn
        by_cases h0 : x = 0
        · rw [if_pos h0] at h
          subst h0
          exact h H locs ls pc hH hS hn trivial hd1
        · rw [if_neg h0] at h
          by_cases h1 : x = 1
          · rw [if_pos h1] at h
            subst h1
            exact h H locs ls pc hH hS hn trivial hd1
          · rw [if_neg h1] at h
            exact h.elim
      · exact h.elim
      · exact fun H locs ls hl hH hS hn => h H locs ls pc hH hS hn trivial hd1
      · exact h.elim
      · exact h.elim
      · exact h.elim
    · exact h.elim
  case areturn =>
    rcases rk with _ | _ | _ | _ | rk
    · exact h.elim
    · exact h.elim
    · exact h.elim
    · rcases st with _ | ⟨x | w | q | q, _ | ⟨v2, st⟩⟩
      · exact h.elim
      · exact h.elim
      · exact h.elim
      · exact h.elim
      · exact h.elim
      · exact fun H locs ls hl hH hS hn => h H locs ls pc hH hS hn trivial hd
      · exact h.elim
      · exact h.elim
      · exact h.elim
    · exact h.elim
  case return_ =>
    rcases rk with _ | rk
    · rcases st with _ | ⟨v, st⟩
      · exact fun H locs ls hl hH hS hn => h H locs ls pc hH hS hn trivial hd
      · exact h.elim
    · exact h.elim
  all_goals first | exact h.elim | cases hp
end PMW
end
section
/-! The memory's instructions. -/
theorem pm_fdw : pm_fd.all (fun q => (u_ws q.1 (pm_T q.2) q.2.length).all pm_has) = true := by decide +kernel
def pm_ft (q : pm_Fd) : FieldType := (parseFieldDescriptor q.2.2.1).getD .int
def pm_isr (t : FieldType) : Bool := match t with
  | .object _ => true
  | .array _ => true
  | _ => false
theorem pm_fdt : pm_fd.all (fun q => (List.range q.2.length).all (fun k => decide (parseFieldDescriptor (pm_T q.2 k).2.2.1 = some (pm_ft (q.2.getD k ("", "", "", false, 0)))))) = true := by decide +kernel
theorem pm_fdy : pm_fd.all (fun q => q.2.all (fun f => (decide (f.2.2.2.2 = 0) && decide (pm_ft f = .int)) || (decide (f.2.2.2.2 = 1) && decide (pm_ft f = .boolean)) || (decide (f.2.2.2.2 = 2) && pm_isr (pm_ft f)))) = true := by decide +kernel
theorem pm_fdn : pm_fd.all (fun q => (List.range q.2.length).all (fun a => (List.range q.2.length).all (fun b => decide (a = b) || decide ((pm_T q.2 a).2.1 ≠ (pm_T q.2 b).2.1)))) = true := by decide +kernel
theorem pm_fd_cn : (List.range 7).all (fun ci => decide ((pm_fd.getD ci ("", [])).1 = pm_cn ci)) = true := by decide +kernel
/-- what is known of a kind of object and one of its slots -/
theorem pm_slot {ci j : Nat} {C : String} {fs : List pm_Fd} {q : pm_Fd} (h : pm_fd[ci]? = some (C, fs)) (hj : fs[j]? = some q) :
    pm_cl[ci]? = some (C, pm_T fs, fs.length) ∧ pm_fs0 ci = fs ∧ j < fs.length ∧ pm_T fs j = (q.1, q.2.1, q.2.2.1, q.2.2.2.1) ∧ (pm_tl fs).getD j 0 = q.2.2.2.2 ∧ (∀ w ∈ u_ws C (pm_T fs) fs.length, w ∈ pm_ga) ∧ (∀ k, k < fs.length → parseFieldDescriptor (pm_T fs k).2.2.1 = some (pm_ft (fs.getD k ("", "", "", false, 0)))) ∧ (∀ a, a < fs.length → ∀ b, b < fs.length → a ≠ b → (pm_T fs a).2.1 ≠ (pm_T fs b).2.1) ∧ fs.getD j ("", "", "", false, 0) = q ∧ ((q.2.2.2.2 = 0 ∧ pm_ft q = .int) ∨ (q.2.2.2.2 = 1 ∧ pm_ft q = .boolean) ∨ (q.2.2.2.2 = 2 ∧ pm_isr (pm_ft q) = true)) := by
  have hm : (C, fs) ∈ pm_fd := List.mem_of_getElem? h
  have hl : j < fs.length := (List.getElem?_eq_some_iff.mp hj).1
  have hg : fs.getD j ("", "", "", false, 0) = q := by rw [List.getD_eq_getElem?_getD, hj]; rfl
  refine ⟨by unfold pm_cl; rw [List.getElem?_map, h]; rfl, by unfold pm_fs0; rw [List.getD_eq_getElem?_getD, h]; rfl, hl, by unfold pm_T; rw [hg], by unfold pm_tl; rw [List.getD_eq_getElem?_getD, List.getElem?_map, hj]; rfl, fun w hw => ?_, fun k hk => ?_, fun a ha b hb hab => ?_, hg, ?_⟩
  · exact pm_in (List.all_eq_true.mp (List.all_eq_true.mp pm_fdw _ hm) w hw)
  · exact of_decide_eq_true (List.all_eq_true.mp (List.all_eq_true.mp pm_fdt _ hm) k (List.mem_range.mpr hk))
  · have h1 := List.all_eq_true.mp (List.all_eq_true.mp (List.all_eq_true.mp pm_fdn _ hm) a (List.mem_range.mpr ha)) b (List.mem_range.mpr hb)
    simp only [Bool.or_eq_true, decide_eq_true_eq] at h1
    rcases h1 with h1 | h1
    · exact absurd h1 hab
    · exact h1
  · have h1 := List.all_eq_true.mp (List.all_eq_true.mp pm_fdy _ hm) q (List.mem_of_getElem? hj)
    simp only [Bool.or_eq_true, Bool.and_eq_true, decide_eq_true_eq] at h1
    rcases h1 with (h1 | h1) | h1
    · exact Or.inl h1
    · exact Or.inr (Or.inl h1)
    · exact Or.inr (Or.inr h1)
theorem pm_fok_spec {own : String} {i ci j ty : Nat} (h : pm_fok own i ci j ty = true) : ∃ (C : String) (fs : List pm_Fd) (q : pm_Fd) (ref : String), pm_fd[ci]? = some (C, fs) ∧ fs[j]? = some q ∧ q.2.2.2.2 = ty ∧ Cond.fieldLink own i ref q.2.1 q.2.2.1 ∈ pm_ga ∧ (ref = q.1 ∨ Cond.sameField ref q.1 q.2.1 q.2.2.1 ∈ pm_ga) := by
  unfold pm_fok at h
  cases h1 : pm_fd[ci]? with
  | none => rw [h1] at h; cases h
  | some Cf =>
    obtain ⟨C, fs⟩ := Cf
    rw [h1] at h
    dsimp only at h
    cases h2 : fs[j]? with
    | none => rw [h2] at h; cases h
    | some q =>
      obtain ⟨D, nm, ds, fin, t⟩ := q
      rw [h2] at h
      simp only [Bool.and_eq_true, List.any_eq_true, Bool.or_eq_true, decide_eq_true_eq] at h
      obtain ⟨ht, ref, -, hl, hs⟩ := h
      refine ⟨C, fs, _, ref, rfl, h2, pm_beq ht, pm_in hl, ?_⟩
      rcases hs with hs | hs
      · exact Or.inl hs
      · exact Or.inr (pm_in hs)
section PMM
variable {p : Program} {l : Launch} {e : Env} {R : Room} {s : State} {m : MethodId} {args : Array Value} {below : List Frame} {meth : Method} {c : Code} {Q : State → Prop}
variable {G : pm_G} {sc : pm_Sc} {M : pm_Mt} {d n0 nf : Nat} {MT : List pm_Mt} {pc : Nat} {ax : List Nat} {lv : pm_Lv} {st : List pm_V} {u : pm_S}
variable {H : Heap} {locs : List Loc} {cells slots : Nat} {ls : Array Slot} {rest : List Value}
theorem pm_w_get (E : pm_E G sc M d p R s m args meth c) (hH : pm_H G u H) {i k ci j ty : Nat} (hcls : pm_cls u.1 k = some ci) (hf : pm_fok M.1.cls i ci j ty = true) (hd : decode M.2.1 pc = .ok (.getfield i, 3))
    (kk : W p l e R s m args below meth c H locs cells slots Q (F0 m (pc + 3) ls (pm_vl G.2.2.1 G.2.2.2 (pm_get ty k j u) :: rest))) : W p l e R s m args below meth c H locs cells slots Q (F0 m pc ls (.ref (G.2.2.1 + k) :: rest)) := by
  obtain ⟨hx, hb, -, hown, hga, hK, -⟩ := E
  obtain ⟨C, fs, q, ref, h1, h2, hty, hl, hs⟩ := pm_fok_spec hf
  obtain ⟨hc, h0, hj, hT, htl, hw, -⟩ := pm_slot h1 h2
  obtain ⟨hk, hkd⟩ := pm_cls_spec hcls
  have he := pm_ws_get (G := G) hk
  rw [pm_kx_of hkd] at he
  refine va_get (D := G.1) (own := M.1.cls) (ref := ref) (Ts := pm_ga) hx hb hga hw hown hK.1 hH.2 k he hc j hj (by rw [hT]; exact hga _ hl) ?_ (v := pm_vl G.2.2.1 G.2.2.2 (pm_get ty k j u)) ?_ hd kk
  · rw [hT]
    intro y hy
    rcases hs with rfl | hs
    · exact hy
    · exact u_same (hga _ hs) y hy
  · rw [h0, pm_fs_get (by unfold pm_tl; rw [List.length_map]; exact hj), htl, hty, pm_vl_get]
/-- a field is written: any value that fits -/
theorem pm_w_put (E : pm_E G sc M d p R s m args meth c) (hH : pm_H G u H) (hS : va_S (pm_A G) s.heap H locs) {i k ci j ty : Nat} (hcls : pm_cls u.1 k = some ci) (hf : pm_fok M.1.cls i ci j ty = true) (hfin : pm_fin M.1.cls (decide (M.1.name = "<init>")) ci j = true) {v : Value} {u' : pm_S}
    (hn1 : u'.1 = u.1) (hval : pm_sv ty G.2.2.1 (u'.2.1 k j) (u'.2.2.1 k j) (u'.2.2.2 k j) = v) (hfit : ∀ q : pm_Fd, q.2.2.2.2 = ty → ((q.2.2.2.2 = 0 ∧ pm_ft q = .int) ∨ (q.2.2.2.2 = 1 ∧ pm_ft q = .boolean) ∨ (q.2.2.2.2 = 2 ∧ pm_isr (pm_ft q) = true)) → narrow (pm_ft q) v = v ∧ fits (pm_ft q) v = true)
    (hxa : ∀ a b, ¬ (a = k ∧ b = j) → u'.2.1 a b = u.2.1 a b) (hwa : ∀ a b, ¬ (a = k ∧ b = j) → u'.2.2.1 a b = u.2.2.1 a b) (hra : ∀ a b, ¬ (a = k ∧ b = j) → u'.2.2.2 a b = u.2.2.2 a b) (hd : decode M.2.1 pc = .ok (.putfield i, 3))
    (kk : ∀ (H1 : Heap) (locs1 : List Loc), pm_H G u' H1 → va_S (pm_A G) s.heap H1 locs1 → W p l e R s m args below meth c H1 locs1 cells slots Q (F0 m (pc + 3) ls rest)) : W p l e R s m args below meth c H locs cells slots Q (F0 m pc ls (v :: .ref (G.2.2.1 + k) :: rest)) := by
  obtain ⟨hx, hb, -, hown, hga, hK, -, hini, -⟩ := E
  obtain ⟨C, fs, q, ref, h1, h2, hty, hl, hs⟩ := pm_fok_spec hf
  obtain ⟨hc, h0, hj, hT, htl, hw, hpt, hnm, hgd, hkind0⟩ := pm_slot h1 h2
  obtain ⟨hk, hkd⟩ := pm_cls_spec hcls
  have he := pm_ws_get (G := G) hk
  rw [pm_kx_of hkd] at he
  have hsame : ∀ y, s.fieldFound? (pm_T fs j).1 (pm_T fs j).2.1 (pm_T fs j).2.2.1 = some y → s.fieldFound? ref (pm_T fs j).2.1 (pm_T fs j).2.2.1 = some y := by
    rw [hT]
    intro y hy
    rcases hs with rfl | hs
    · exact hy
    · exact u_same (hga _ hs) y hy
  have hlink : (Cond.fieldLink M.1.cls i ref (pm_T fs j).2.1 (pm_T fs j).2.2.1).before args s = true := by rw [hT]; exact hga _ hl
  have hd2 : parseFieldDescriptor (pm_T fs j).2.2.1 = some (pm_ft q) := by rw [hpt j hj, hgd]
  have hap := va_apart (own := M.1.cls) hga hw _ hpt hnm hK.1 hc
  obtain ⟨hn, hft⟩ := hfit q hty hkind0
  obtain ⟨q', g1, cell, q1, q2, q3, q4⟩ := hH.2 k _ he
  have hr : q' = (C, pm_T fs, fs.length) := Option.some.inj (g1.symm.trans hc)
  subst hr
  obtain ⟨hSl, hfc, kC, hkC, hkind⟩ := hK.1.1 ci _ hc
  obtain ⟨cf, kf, fi, f, hi, hsl⟩ := hSl j hj
  have hlay := hga _ (hw _ (u_in_lay hj))
  unfold u_lay at hlay
  have hst := (u_facts hfc hkC (u_lays hga hw hj) hi).1
  have hlen : j < (pm_fs (pm_tl (pm_fs0 ci)) G.2.2.1 (u.2.1 k) (u.2.2.1 k) (u.2.2.2 k)).length := by rw [pm_fs_len, h0]; unfold pm_tl; rw [List.length_map]; exact hj
  have hend : ∀ (H' : Heap), H'[G.2.2.1 + k]? = some (cell.setSlot f.slot v) → H'.size = H.size → (∀ q, q ≠ G.2.2.1 + k → H'[q]? = H[q]?) → W p l e R s m args below meth c H' (locs ++ [⟨G.2.2.1 + k, f.slot⟩]) cells slots Q (F0 m (pc + 3) ls rest) := by
    intro H' e1 e2 e3
    rw [hsl] at e1 ⊢
    refine kk H' _ ⟨by rw [e2, hn1]; exact hH.1, ?_⟩ (hS.put e2 e3 (pm_ws_D.2 k _ he))
    have hP := hH.2.set pm_ws_D he (e := .inr (ci, (pm_fs (pm_tl (pm_fs0 ci)) G.2.2.1 (u.2.1 k) (u.2.2.1 k) (u.2.2.2 k)).set j v)) ⟨_, hc, t_OB.to (V := updV (vp_V (pm_fs (pm_tl (pm_fs0 ci)) G.2.2.1 (u.2.1 k) (u.2.2.1 k) (u.2.2.2 k))) j v) ⟨_, e1, q2, q3, t_set q4 hap hj v⟩ (fun a _ => vp_updV_set hlen v a)⟩ e3
    rw [pm_ws_set (u' := u') hn1 ?_ (fun a ha => funext fun b => hxa a b (fun z => ha z.1)) (fun a ha => funext fun b => hwa a b (fun z => ha z.1)) (fun a ha => funext fun b => hra a b (fun z => ha z.1))] at hP
    · exact hP
    · rw [pm_kx_of hkd]
      show Sum.inr (ci, _) = Sum.inr (ci, _)
      rw [pm_fs_set (x' := u'.2.1 k) (w' := u'.2.2.1 k) (r' := u'.2.2.2 k) (by rw [h0]; unfold pm_tl; rw [List.length_map]; exact hj) (by rw [h0, htl, hty]; exact hval) (fun b hb => hxa k b (fun z => hb z.2)) (fun b hb => hwa k b (fun z => hb z.2)) (fun b hb => hra k b (fun z => hb z.2))]
  unfold pm_fin at hfin
  rw [h0, h2] at hfin
  by_cases hq : q.2.2.2.1 = true
  · simp only [hq, Bool.not_true, Bool.false_or, Bool.and_eq_true, decide_eq_true_eq] at hfin
    rw [if_pos (by rw [hT]; exact hq)] at hlay
    have hcf : m.cls = cf := by
      obtain ⟨_, _, c', _, _, _, -, -, hf', -, -, -, hown2, -⟩ := Cond.laysFinal_spec hlay
      have e1 : c' = cf := by have := hi.symm.trans hf'; simp at this; exact this.1.symm
      rw [show (pm_T fs j).1 = M.1.cls by rw [hT]; exact hfin.2] at hown2
      rw [← e1]; exact Option.some.inj (hown.symm.trans hown2)
    have h6 := u_fits hfc hkC hkind (Or.inr hlay) hi hd2 hn hft
    exact W.putFinK hx hb hown hlink (hsame _ hi) hst hcf (hini hfin.1) (by rw [q2]; exact h6) q1 q3 (by rw [hsl]; exact k2_hasslot (q4 j hj)) rfl rfl hd hend
  · rw [if_neg (by rw [hT]; exact hq)] at hlay
    have h6 := u_store hfc hkC hkind hlay hi hd2 hn hft
    exact W.putK hx hb (f := f) ⟨hown, hlink, ⟨_, _, _, hsame _ hi⟩, hst⟩ (by rw [q2]; exact h6) q1 q3 (by rw [hsl]; exact k2_hasslot (q4 j hj)) rfl rfl hd hend
/-- a store, and where it leads -/
theorem pm_put_spec {ty k j : Nat} {v : pm_V} {kg : pm_S → Prop} (h : pm_put ty k j v u kg False) (z b : Nat) : ∃ (u' : pm_S) (w : Value), kg u' ∧ pm_vl z b v = w ∧ u'.1 = u.1 ∧ pm_sv ty z (u'.2.1 k j) (u'.2.2.1 k j) (u'.2.2.2 k j) = w ∧ (∀ a b', ¬ (a = k ∧ b' = j) → u'.2.1 a b' = u.2.1 a b') ∧ (∀ a b', ¬ (a = k ∧ b' = j) → u'.2.2.1 a b' = u.2.2.1 a b') ∧ (∀ a b', ¬ (a = k ∧ b' = j) → u'.2.2.2 a b' = u.2.2.2 a b') ∧
    (∀ q : pm_Fd, q.2.2.2.2 = ty → ((q.2.2.2.2 = 0 ∧ pm_ft q = .int) ∨ (q.2.2.2.2 = 1 ∧ pm_ft q = .boolean) ∨ (q.2.2.2.2 = 2 ∧ pm_isr (pm_ft q) = true)) → narrow (pm_ft q) w = w ∧ fits (pm_ft q) w = true) ∧
    ((ty = 0 ∧ ∃ x, w = .int x ∧ u' = (u.1, pm_up u.2.1 k j x, u.2.2.1, u.2.2.2)) ∨ (ty = 1 ∧ ∃ x : Bool, w = .int (bif x then 1 else 0) ∧ u' = (u.1, u.2.1, pm_up u.2.2.1 k j x, u.2.2.2)) ∨ (ty = 2 ∧ ∃ x, w = .ref (z + x) ∧ u' = (u.1, u.2.1, u.2.2.1, pm_up u.2.2.2 k j (some x)))) := by
  have hup : ∀ {α : Type} (x : Nat → Nat → α) (y : α) (a b' : Nat), ¬ (a = k ∧ b' = j) → pm_up x k j y a b' = x a b' := fun x y a b' hn => by rw [pm_up_eq, if_neg hn]
  have hself : ∀ {α : Type} (x : Nat → Nat → α) (y : α), pm_up x k j y k j = y := fun x y => by rw [pm_up_at, if_pos rfl]
  have bool : ∀ (x : Bool) (v' : Value), v' = .int (bif x then 1 else 0) → ∀ q : pm_Fd, q.2.2.2.2 = 1 → ((q.2.2.2.2 = 0 ∧ pm_ft q = .int) ∨ (q.2.2.2.2 = 1 ∧ pm_ft q = .boolean) ∨ (q.2.2.2.2 = 2 ∧ pm_isr (pm_ft q) = true)) → narrow (pm_ft q) v' = v' ∧ fits (pm_ft q) v' = true := by
    intro x v' hv q h1 h2
    rcases h2 with ⟨h2, -⟩ | ⟨-, h2⟩ | ⟨h2, -⟩
    · rw [h1] at h2; cases h2
    · rw [h2, hv]
      cases x <;> exact ⟨by decide, by decide⟩
    · rw [h1] at h2; cases h2
  rcases ty with _ | _ | _ | ty <;> rcases v with x | w | (_ | q0) | w <;> first | exact h.elim | skip
  · refine ⟨_, _, h, rfl, rfl, congrArg Value.int (hself u.2.1 x), fun a b' hn => hup _ _ a b' hn, fun _ _ _ => rfl, fun _ _ _ => rfl, fun q h1 h2 => ?_, Or.inl ⟨rfl, x, rfl, rfl⟩⟩
    rcases h2 with ⟨-, h2⟩ | ⟨h2, -⟩ | ⟨h2, -⟩
    · rw [h2]; exact ⟨rfl, rfl⟩
    · rw [h1] at h2; cases h2
    · rw [h1] at h2; cases h2
  · change (if x = 0 then _ else if x = 1 then _ else False) at h
    by_cases h0 : x = 0
    · rw [if_pos h0] at h
      subst h0
      exact ⟨_, _, h, rfl, rfl, congrArg (fun q : Bool => Value.int (bif q then 1 else 0)) (hself u.2.2.1 false), fun _ _ _ => rfl, fun a b' hn => hup _ _ a b' hn, fun _ _ _ => rfl, bool false _ rfl, Or.inr (Or.inl ⟨rfl, false, rfl, rfl⟩)⟩
    · rw [if_neg h0] at h
      by_cases h1 : x = 1
      · rw [if_pos h1] at h
        subst h1
        exact ⟨_, _, h, rfl, rfl, congrArg (fun q : Bool => Value.int (bif q then 1 else 0)) (hself u.2.2.1 true), fun _ _ _ => rfl, fun a b' hn => hup _ _ a b' hn, fun _ _ _ => rfl, bool true _ rfl, Or.inr (Or.inl ⟨rfl, true, rfl, rfl⟩)⟩
      · rw [if_neg h1] at h
        exact h.elim
  · exact ⟨_, _, h, rfl, rfl, congrArg (fun q : Bool => Value.int (bif q then 1 else 0)) (hself u.2.2.1 w), fun _ _ _ => rfl, fun a b' hn => hup _ _ a b' hn, fun _ _ _ => rfl, bool w _ rfl, Or.inr (Or.inl ⟨rfl, w, rfl, rfl⟩)⟩
  · refine ⟨_, _, h, rfl, rfl, congrArg (fun q => va_rf (pm_rz z q)) (hself u.2.2.2 (some q0)), fun _ _ _ => rfl, fun _ _ _ => rfl, fun a b' hn => hup _ _ a b' hn, fun q h1 h2 => ?_, Or.inr (Or.inr ⟨rfl, q0, rfl, rfl⟩)⟩
    rcases h2 with ⟨h2, -⟩ | ⟨h2, -⟩ | ⟨-, h2⟩
    · rw [h1] at h2; cases h2
    · rw [h1] at h2; cases h2
    · show narrow (pm_ft q) (.ref (z + q0)) = .ref (z + q0) ∧ _
      revert h2
      cases pm_ft q <;> intro h2 <;> first | exact ⟨rfl, rfl⟩ | cases h2
theorem pm_any {ci : Nat} {cis : List Nat} {f : Nat → Bool} (h : cis.any (Nat.beq ci) = true) (hf : cis.all f = true) : f ci = true := by
  obtain ⟨x, hx, he⟩ := List.any_eq_true.mp h
  rw [pm_beq he]
  exact List.all_eq_true.mp hf x hx
theorem pm_s_get {i : Nat} {cal : Nat → List pm_V → pm_S → Option pm_Rs} {rk : Nat} {kr : pm_Rs → Prop} (E : pm_E G sc M d p R s m args meth c) (hd : decode M.2.1 pc = .ok (.getfield i, 3)) (ho : pm_oki MT M pc (.getfield i) ax = true)
    (h : pm_do cal sc rk (.getfield i) (pc + 3) ax lv st u (pm_kk p l e R s m args below meth c Q G M.2.2.1 n0 nf) kr False) : pm_PW p l e R s m args below meth c Q G M.2.2.1 n0 pc lv st u := by
  rcases ax with _ | ⟨j, _ | ⟨ty, cis⟩⟩
  · exact h.elim
  · exact h.elim
  · obtain ⟨k, ci, st', rfl, hcls, hk⟩ := pm_obj_spec h
    cases ha : cis.any (Nat.beq ci) with
    | false => rw [ha] at hk; exact hk.elim
    | true =>
      rw [ha] at hk
      exact fun H locs ls hl hH hS hn => pm_w_get E hH hcls (pm_any (f := fun ci => pm_fok M.1.cls i ci j ty) ha ho) hd (hk.2 H locs ls hl hH hS hn)
theorem pm_s_put {i : Nat} {cal : Nat → List pm_V → pm_S → Option pm_Rs} {rk : Nat} {kr : pm_Rs → Prop} (E : pm_E G sc M d p R s m args meth c) (hd : decode M.2.1 pc = .ok (.putfield i, 3)) (ho : pm_oki MT M pc (.putfield i) ax = true)
    (h : pm_do cal sc rk (.putfield i) (pc + 3) ax lv st u (pm_kk p l e R s m args below meth c Q G M.2.2.1 n0 nf) kr False) : pm_PW p l e R s m args below meth c Q G M.2.2.1 n0 pc lv st u := by
  rcases ax with _ | ⟨j, _ | ⟨ty, _ | ⟨fi, cis⟩⟩⟩
  · exact h.elim
  · exact h.elim
  · exact h.elim
  · rcases st with _ | ⟨v, st⟩
    · exact h.elim
    · obtain ⟨k, ci, st', rfl, hcls, hk⟩ := pm_obj_spec h
      cases ha : cis.any (Nat.beq ci) with
      | false => rw [ha] at hk; exact hk.elim
      | true =>
        rw [ha] at hk
        have hf := pm_any ha ho
        simp only [Bool.and_eq_true] at hf
        obtain ⟨u', w, k1, k2, k3, k4, k5, k6, k7, k8, -⟩ := pm_put_spec hk G.2.2.1 G.2.2.2
        intro H locs ls hl hH hS hn
        rw [List.map_cons, k2]
        refine pm_w_put E hH hS hcls hf.1 hf.2 k3 k4 k8 k5 k6 k7 hd (fun H1 locs1 hH1 hS1 => ?_)
        have := k1.2 H1 locs1 ls hl hH1 hS1 (by rw [k3]; exact hn)
        rw [k3] at this
        exact this
end PMM
end
section
/-! Arrays, and what is made. -/
theorem pm_ac_cell (cA : ClassId) (len t z : Nat) (x : Nat → Int32) (w : Nat → Bool) (r : Nat → Option Nat) : vp_cell cA (len, pm_ac t z x w r) = arrV cA len (fun j => pm_sv t z (x j) (w j) (r j)) := by
  rcases t with _ | _ | t <;> rfl
theorem pm_arrset {G : pm_G} {u u' : pm_S} {H H1 : Heap} {k t len j : Nat} {v : Value} (hH : pm_H G u H) (hk : k < u.1) (hkd : pm_kd k = some (.inr (t, len))) (e : H1[G.2.2.1 + k]? = some ((vp_cell (G.2.1 t) (len, pm_ac t G.2.2.1 (u.2.1 k) (u.2.2.1 k) (u.2.2.2 k))).setSlot j v)) (z : H1.size = H.size) (oq : ∀ q, q ≠ G.2.2.1 + k → H1[q]? = H[q]?)
    (hn : u'.1 = u.1) (hval : pm_sv t G.2.2.1 (u'.2.1 k j) (u'.2.2.1 k j) (u'.2.2.2 k j) = v) (hxa : ∀ a b, ¬ (a = k ∧ b = j) → u'.2.1 a b = u.2.1 a b) (hwa : ∀ a b, ¬ (a = k ∧ b = j) → u'.2.2.1 a b = u.2.2.1 a b) (hra : ∀ a b, ¬ (a = k ∧ b = j) → u'.2.2.2 a b = u.2.2.2 a b) : pm_H G u' H1 := by
  have ha := pm_ws_get (G := G) hk
  rw [pm_kx_of hkd] at ha
  have hP := hH.2.set (e := pm_cell G (.inr (t, len)) (u'.2.1 k) (u'.2.2.1 k) (u'.2.2.2 k)) pm_ws_D ha ?_ oq
  · rw [pm_ws_set (u' := u') hn (by rw [pm_kx_of hkd]) (fun a ha => funext fun b => hxa a b (fun z => ha z.1)) (fun a ha => funext fun b => hwa a b (fun z => ha z.1)) (fun a ha => funext fun b => hra a b (fun z => ha z.1))] at hP
    exact ⟨by rw [z, hn]; exact hH.1, hP⟩
  · show H1[G.2.2.1 + k]? = some (vp_cell (G.2.1 t) (len, pm_ac t G.2.2.1 (u'.2.1 k) (u'.2.2.1 k) (u'.2.2.2 k)))
    rw [e, pm_ac_cell, pm_ac_cell, arrV_store]
    congr 2
    funext b
    by_cases hb : b = j
    · subst hb
      simp only [updV, if_true]
      exact hval.symm
    · simp only [updV, if_neg hb]
      rw [hxa k b (fun z => hb z.2), hwa k b (fun z => hb z.2), hra k b (fun z => hb z.2)]
theorem pm_ald_spec {sc : pm_Sc} {t0 : Nat} {st : List pm_V} {u : pm_S} {kg : pm_V → List pm_V → Prop} (h : pm_ald sc t0 st u kg False) : ∃ i : Int32, (∃ k st' t len, st = .inl i :: .inr (.inr (.inl (some k))) :: st' ∧ pm_arr u.1 k = some (t, len) ∧ (t = t0 ∨ (t0 = 2 ∧ t = 3)) ∧ pm_ib i len = true ∧ kg (pm_get t0 k i.toNatClampNeg u) st') ∨ (∃ q st', st = .inl i :: .inr (.inr (.inr q)) :: st' ∧ t0 = 0 ∧ pm_ib i sc.1 = true ∧ kg (.inl (sc.2 i.toNatClampNeg)) st') := by
  rcases st with _ | ⟨i | v, _ | ⟨x | b | (_ | k) | q, st⟩⟩ <;> first | exact h.elim | skip
  · refine ⟨i, Or.inl ?_⟩
    change (match pm_arr u.1 k with | some (t, len) => _ | none => False) at h
    cases ha : pm_arr u.1 k with
    | none => rw [ha] at h; exact h.elim
    | some tl =>
      obtain ⟨t, len⟩ := tl
      rw [ha] at h
      dsimp only at h
      cases hb : ((Nat.beq t t0 || (Nat.beq t0 2 && Nat.beq t 3)) && pm_ib i len) with
      | false => rw [hb] at h; exact h.elim
      | true =>
        rw [hb] at h
        simp only [Bool.and_eq_true, Bool.or_eq_true] at hb
        refine ⟨k, st, t, len, rfl, ha, ?_, hb.2, h⟩
        rcases hb.1 with h1 | h1
        · exact Or.inl (pm_beq h1)
        · exact Or.inr ⟨pm_beq h1.1, pm_beq h1.2⟩
  · refine ⟨i, Or.inr ?_⟩
    change (bif Nat.beq t0 0 && pm_ib i sc.1 then _ else False) at h
    cases hb : (Nat.beq t0 0 && pm_ib i sc.1) with
    | false => rw [hb] at h; exact h.elim
    | true =>
      rw [hb] at h
      simp only [Bool.and_eq_true] at hb
      exact ⟨q, st, rfl, pm_beq hb.1, hb.2, h⟩
theorem pm_ast_spec {t0 : Nat} {st : List pm_V} {u : pm_S} {kg : List pm_V → pm_S → Prop} (h : pm_ast t0 st u kg False) : ∃ v i k st' len, st = v :: .inl i :: .inr (.inr (.inl (some k))) :: st' ∧ pm_arr u.1 k = some (t0, len) ∧ pm_ib i len = true ∧ pm_put t0 k i.toNatClampNeg v u (fun u => kg st' u) False := by
  rcases st with _ | ⟨v, _ | ⟨i | i, _ | ⟨x | b | (_ | k) | z, st⟩⟩⟩ <;> first | exact h.elim | skip
  change (match pm_arr u.1 k with | some (t, len) => _ | none => False) at h
  cases ha : pm_arr u.1 k with
  | none => rw [ha] at h; exact h.elim
  | some tl =>
    obtain ⟨t, len⟩ := tl
    rw [ha] at h
    dsimp only at h
    cases hb : (Nat.beq t t0 && pm_ib i len) with
    | false => rw [hb] at h; exact h.elim
    | true =>
      rw [hb] at h
      simp only [Bool.and_eq_true] at hb
      have ht := pm_beq hb.1
      subst ht
      exact ⟨v, i, k, st, len, rfl, ha, hb.2, h⟩
theorem pm_asta_spec {st : List pm_V} {u : pm_S} {kg : List pm_V → pm_S → Prop} (h : pm_asta st u kg False) : ∃ q i k st' t len ci, st = .inr (.inr (.inl (some q))) :: .inl i :: .inr (.inr (.inl (some k))) :: st' ∧ pm_arr u.1 k = some (t, len) ∧ pm_cls u.1 q = some ci ∧ ((t = 2 ∧ ci = 1) ∨ (t = 3 ∧ ci = 2)) ∧ pm_ib i len = true ∧ kg st' (u.1, u.2.1, u.2.2.1, pm_up u.2.2.2 k i.toNatClampNeg (some q)) := by
  rcases st with _ | ⟨y | d | (_ | q) | w, _ | ⟨i | i, _ | ⟨x | b | (_ | k) | z, st⟩⟩⟩ <;> first | exact h.elim | skip
  change (match pm_arr u.1 k, pm_cls u.1 q with | some (t, len), some ci => _ | _, _ => False) at h
  cases ha : pm_arr u.1 k with
  | none => rw [ha] at h; exact h.elim
  | some tl =>
    obtain ⟨t, len⟩ := tl
    rw [ha] at h
    cases hc : pm_cls u.1 q with
    | none => rw [hc] at h; exact h.elim
    | some ci =>
      rw [hc] at h
      dsimp only at h
      cases hb : (((Nat.beq t 2 && Nat.beq ci 1) || (Nat.beq t 3 && Nat.beq ci 2)) && pm_ib i len) with
      | false => rw [hb] at h; exact h.elim
      | true =>
        rw [hb] at h
        simp only [Bool.and_eq_true, Bool.or_eq_true] at hb
        refine ⟨q, i, k, st, t, len, ci, rfl, ha, hc, ?_, hb.2, h⟩
        rcases hb.1 with h1 | h1
        · exact Or.inl ⟨pm_beq h1.1, pm_beq h1.2⟩
        · exact Or.inr ⟨pm_beq h1.1, pm_beq h1.2⟩
section PMA
variable {p : Program} {l : Launch} {e : Env} {R : Room} {s : State} {m : MethodId} {args : Array Value} {below : List Frame} {meth : Method} {c : Code} {Q : State → Prop}
variable {G : pm_G} {sc : pm_Sc} {M : pm_Mt} {d n0 nf : Nat} {MT : List pm_Mt} {pc : Nat} {ax : List Nat} {lv : pm_Lv} {st : List pm_V} {u : pm_S}
variable {H : Heap} {locs : List Loc} {cells slots : Nat} {ls : Array Slot} {rest : List Value}
theorem pm_w_cell {k : Nat} {dd : pm_Kd} (hk : k < u.1) (hkd : pm_kd k = some dd) : (pm_ws G u)[k]? = some (G.2.2.1 + k, pm_cell G dd (u.2.1 k) (u.2.2.1 k) (u.2.2.2 k)) := by
  have ha := pm_ws_get (G := G) hk
  rw [pm_kx_of hkd] at ha
  exact ha
theorem pm_s_iaload (E : pm_E G sc M d p R s m args meth c) (hd : decode M.2.1 pc = .ok (.iaload, 1)) (h : pm_ald sc 0 st u (fun v st => pm_kk p l e R s m args below meth c Q G M.2.2.1 n0 nf (pc + 1) lv (v :: st) u) False) : pm_PW p l e R s m args below meth c Q G M.2.2.1 n0 pc lv st u := by
  obtain ⟨hx, hb, -, hown, hga, hK, hX, -⟩ := E
  obtain ⟨i, h | h⟩ := pm_ald_spec h
  · obtain ⟨k, st', t, len, rfl, ha, ht, hi, hk⟩ := h
    have ht0 : t = 0 := by rcases ht with h | h; exact h; exact absurd h.1 (by decide)
    subst ht0
    obtain ⟨hkn, hkd⟩ := pm_arr_spec ha
    exact fun H locs ls hl hH hS hn => va_iald hx hb hK.1 hH.2 k 0 (pm_w_cell hkn hkd) rfl (pm_ib_in hi) hd (hk.2 H locs ls hl hH hS hn)
  · obtain ⟨q, st', rfl, -, hi, hk⟩ := h
    exact fun H locs ls hl hH hS hn => va_sld (A := pm_A G) hx hb hX.1 (Array.getElem?_eq_some_iff.mp hX.1.choose_spec.1).1 (fun q => by have q' : G.2.2.1 ≤ G.2.2.2 := q; have := hX.2; omega) hS (pm_ib_in hi) hd (hk.2 H locs ls hl hH hS hn)
theorem pm_s_baload (E : pm_E G sc M d p R s m args meth c) (hd : decode M.2.1 pc = .ok (.baload, 1)) (h : pm_ald sc 1 st u (fun v st => pm_kk p l e R s m args below meth c Q G M.2.2.1 n0 nf (pc + 1) lv (v :: st) u) False) : pm_PW p l e R s m args below meth c Q G M.2.2.1 n0 pc lv st u := by
  obtain ⟨hx, hb, -, hown, hga, hK, hX, -⟩ := E
  obtain ⟨i, h | h⟩ := pm_ald_spec h
  · obtain ⟨k, st', t, len, rfl, ha, ht, hi, hk⟩ := h
    have ht0 : t = 1 := by rcases ht with h | h; exact h; exact absurd h.1 (by decide)
    subst ht0
    obtain ⟨hkn, hkd⟩ := pm_arr_spec ha
    exact fun H locs ls hl hH hS hn => va_zald hx hb hK.1 hH.2 k 1 (pm_w_cell hkn hkd) rfl (pm_ib_in hi) hd (hk.2 H locs ls hl hH hS hn)
  · obtain ⟨q, st', rfl, h0, -⟩ := h
    exact absurd h0 (by decide)
theorem pm_s_aaload (E : pm_E G sc M d p R s m args meth c) (hd : decode M.2.1 pc = .ok (.aaload, 1)) (h : pm_ald sc 2 st u (fun v st => pm_kk p l e R s m args below meth c Q G M.2.2.1 n0 nf (pc + 1) lv (v :: st) u) False) : pm_PW p l e R s m args below meth c Q G M.2.2.1 n0 pc lv st u := by
  obtain ⟨hx, hb, -, hown, hga, hK, hX, -⟩ := E
  obtain ⟨i, h | h⟩ := pm_ald_spec h
  · obtain ⟨k, st', t, len, rfl, ha, ht, hi, hk⟩ := h
    obtain ⟨hkn, hkd⟩ := pm_arr_spec ha
    rcases ht with rfl | ⟨-, rfl⟩
    · exact fun H locs ls hl hH hS hn => va_aldq hx hb hK.1 hH.2 k 2 (pm_w_cell hkn hkd) rfl (pm_ib_in hi) hd (hk.2 H locs ls hl hH hS hn)
    · exact fun H locs ls hl hH hS hn => va_aldq hx hb hK.1 hH.2 k 3 (pm_w_cell hkn hkd) rfl (pm_ib_in hi) hd (hk.2 H locs ls hl hH hS hn)
  · obtain ⟨q, st', rfl, h0, -⟩ := h
    exact absurd h0 (by decide)
theorem pm_s_iastore (E : pm_E G sc M d p R s m args meth c) (hd : decode M.2.1 pc = .ok (.iastore, 1)) (h : pm_ast 0 st u (fun st u => pm_kk p l e R s m args below meth c Q G M.2.2.1 n0 nf (pc + 1) lv st u) False) : pm_PW p l e R s m args below meth c Q G M.2.2.1 n0 pc lv st u := by
  obtain ⟨hx, hb, -, hown, hga, hK, hX, -⟩ := E
  obtain ⟨v, i, k, st', len, rfl, ha, hi, hp⟩ := pm_ast_spec h
  obtain ⟨hkn, hkd⟩ := pm_arr_spec ha
  obtain ⟨u', w, k1, k2, k3, k4, k5, k6, k7, -, k9⟩ := pm_put_spec hp G.2.2.1 G.2.2.2
  intro H locs ls hl hH hS hn
  rcases k9 with ⟨-, x, hw, -⟩ | ⟨h0, -⟩ | ⟨h0, -⟩
  · rw [List.map_cons, k2, hw]
    refine W.iast hx hb (hH.2 k _ (pm_w_cell hkn hkd)) ((hK.1.2 0 _ rfl).1 len (fun j => .int (u.2.1 k j))) (fun q => by cases q) (by show ¬ (i < 0 ∨ (arrV _ _ _).slots.size ≤ _); rw [arrV_size]; exact pm_ib_in hi) rfl rfl hd fun H1 e z oq => ?_
    have h2 := k1.2 H1 _ ls hl (pm_arrset hH hkn hkd e z oq k3 (k4.trans hw) k5 k6 k7) (hS.put (k := i.toNatClampNeg) z oq (pm_ws_D.2 k _ (pm_w_cell hkn hkd))) (by rw [k3]; exact hn)
    rw [k3] at h2
    exact h2
  · exact absurd h0 (by decide)
  · exact absurd h0 (by decide)
theorem pm_s_bastore (E : pm_E G sc M d p R s m args meth c) (hd : decode M.2.1 pc = .ok (.bastore, 1)) (h : pm_ast 1 st u (fun st u => pm_kk p l e R s m args below meth c Q G M.2.2.1 n0 nf (pc + 1) lv st u) False) : pm_PW p l e R s m args below meth c Q G M.2.2.1 n0 pc lv st u := by
  obtain ⟨hx, hb, -, hown, hga, hK, hX, -⟩ := E
  obtain ⟨v, i, k, st', len, rfl, ha, hi, hp⟩ := pm_ast_spec h
  obtain ⟨hkn, hkd⟩ := pm_arr_spec ha
  obtain ⟨u', w, k1, k2, k3, k4, k5, k6, k7, -, k9⟩ := pm_put_spec hp G.2.2.1 G.2.2.2
  intro H locs ls hl hH hS hn
  rcases k9 with ⟨h0, -⟩ | ⟨-, x, hw, -⟩ | ⟨h0, -⟩
  · exact absurd h0 (by decide)
  · rw [List.map_cons, k2, hw]
    refine W.zast hx hb (hH.2 k _ (pm_w_cell hkn hkd)) ((hK.1.2 1 _ rfl).1 len (fun j => .int (bif u.2.2.1 k j then 1 else 0))) (fun q => by cases q) (by show ¬ (i < 0 ∨ (arrV _ _ _).slots.size ≤ _); rw [arrV_size]; exact pm_ib_in hi) rfl rfl hd fun H1 e z oq => ?_
    have e2 : narrow .boolean (.int (bif x then 1 else 0)) = w := by rw [hw]; cases x <;> decide
    rw [e2] at e
    have h2 := k1.2 H1 _ ls hl (pm_arrset hH hkn hkd e z oq k3 k4 k5 k6 k7) (hS.put (k := i.toNatClampNeg) z oq (pm_ws_D.2 k _ (pm_w_cell hkn hkd))) (by rw [k3]; exact hn)
    rw [k3] at h2
    exact h2
  · exact absurd h0 (by decide)
theorem pm_s_aastore (E : pm_E G sc M d p R s m args meth c) (hd : decode M.2.1 pc = .ok (.aastore, 1)) (h : pm_asta st u (fun st u => pm_kk p l e R s m args below meth c Q G M.2.2.1 n0 nf (pc + 1) lv st u) False) : pm_PW p l e R s m args below meth c Q G M.2.2.1 n0 pc lv st u := by
  obtain ⟨hx, hb, -, hown, hga, hK, hX, -⟩ := E
  obtain ⟨q, i, k, st', t, len, ci, rfl, ha, hc, ht, hi, hp⟩ := pm_asta_spec h
  obtain ⟨hkn, hkd⟩ := pm_arr_spec ha
  obtain ⟨hqn, hqd⟩ := pm_cls_spec hc
  intro H locs ls hl hH hS hn
  have hin := pm_ib_in hi
  have hlt : i.toNatClampNeg < len := Nat.not_le.mp fun q => hin (Or.inr q)
  have h0 : ¬ i < 0 := fun q => hin (Or.inl q)
  have hup : ∀ a b, ¬ (a = k ∧ b = i.toNatClampNeg) → pm_up u.2.2.2 k i.toNatClampNeg (some q) a b = u.2.2.2 a b := fun a b hn => by rw [pm_up_eq, if_neg hn]
  have key : ∀ (C : String) (r : vw_C), pm_cl[ci]? = some r → r.1 = C → (pm_tys G.2.1)[t]? = some (G.2.1 t, .object C) → 2 ≤ t → W p l e R s m args below meth c H locs (u.1 - n0) (pm_sl u.1 - pm_sl n0) Q (F0 m pc ls (.ref (G.2.2.1 + q) :: .int i :: .ref (G.2.2.1 + k) :: st'.map (pm_vl G.2.2.1 G.2.2.2))) := by
    intro C r hr hC hty h2t
    obtain ⟨r', hr', cellV, g1, g2, g3, -⟩ := hH.2 q _ (pm_w_cell hqn hqd)
    have hcls := (hK.1.1 ci r hr).2
    rw [hC] at hcls
    obtain ⟨kA, comp, k1, k2, k3, -⟩ := (hK.1.2 t _ hty).2
    have hcomp : comp = G.1.1 ci := Option.some.inj (k3.symm.trans hcls.1)
    subst hcomp
    obtain ⟨kC, hkC, -⟩ := hcls.2
    refine W.aast hx hb (hH.2 k _ (pm_w_cell hkn hkd)) (fun q h => ?_) (fun h => ?_) ?_ k2 rfl hkC ⟨h0, ?_⟩ g1 (fun q h => by rw [g3] at h; cases h) (by rw [g2]; exact hkC) (by rw [g2]; exact va_assign hcls) rfl rfl hd fun H1 e z oq => ?_
    · rw [pm_ac_cell] at h; cases h
    · rw [pm_ac_cell] at h; cases h
    · rw [pm_ac_cell]; exact k1
    · rw [pm_ac_cell, arrV_size]; exact hlt
    · have h2 := hp.2 H1 _ ls hl (pm_arrset (u' := (u.1, u.2.1, u.2.2.1, pm_up u.2.2.2 k i.toNatClampNeg (some q))) hH hkn hkd e z oq rfl (by
        rcases t with _ | _ | t
        · omega
        · omega
        · show va_rf (pm_rz G.2.2.1 (pm_up u.2.2.2 k i.toNatClampNeg (some q) k i.toNatClampNeg)) = _
          rw [pm_up_at, if_pos rfl]; rfl) (fun _ _ _ => rfl) (fun _ _ _ => rfl) hup) (hS.put (k := i.toNatClampNeg) z oq (pm_ws_D.2 k _ (pm_w_cell hkn hkd))) hn
      exact h2
  rcases ht with ⟨rfl, rfl⟩ | ⟨rfl, rfl⟩
  · exact key "PlatformDoors$Frame" _ rfl rfl rfl (by decide)
  · exact key "PlatformDoors$Leaf" _ rfl rfl rfl (by decide)
theorem pm_s_alen (E : pm_E G sc M d p R s m args meth c) (hd : decode M.2.1 pc = .ok (.arraylength, 1)) {q : Unit} (h : pm_kk p l e R s m args below meth c Q G M.2.2.1 n0 nf (pc + 1) lv (.inl (Int32.ofNat sc.1) :: st) u) : pm_PW p l e R s m args below meth c Q G M.2.2.1 n0 pc lv (.inr (.inr (.inr q)) :: st) u := by
  obtain ⟨hx, hb, -, hown, hga, hK, hX, -⟩ := E
  exact fun H locs ls hl hH hS hn => va_slen (A := pm_A G) hx hb hX.1 (Array.getElem?_eq_some_iff.mp hX.1.choose_spec.1).1 (fun q => by have q' : G.2.2.1 ≤ G.2.2.2 := q; have := hX.2; omega) hS hd (h.2 H locs ls hl hH hS hn)
/-- the memory with one place more -/
theorem pm_grow {H1 : Heap} (hH : pm_H G u H) (z1 : H1.size = H.size + 1) (o1 : ∀ q, q < H.size → H1[q]? = H[q]?) (hat : va_at G.1 pm_cl (G.2.2.1 + u.1, pm_cell G (pm_kx u.1) (fun _ => 0) (fun _ => false) (fun _ => none)) H1) : pm_H G (pm_made u) H1 := by
  refine ⟨by rw [z1, hH.1]; rfl, ?_⟩
  have hk : ∀ (k : Nat) (x : Nat × va_E), (pm_ws G u)[k]? = some x → H1[x.1]? = H[x.1]? := fun k x hx => o1 x.1 ((hH.2 k x hx).lt)
  have hP := (hH.2.kept hk).app (w2 := [(G.2.2.1 + u.1, pm_cell G (pm_kx u.1) (fun _ => 0) (fun _ => false) (fun _ => none))]) (fun k x hx => by
    have hz : k < 1 := (List.getElem?_eq_some_iff.mp hx).1
    rw [show k = 0 by omega] at hx
    cases hx
    exact hat)
  rw [pm_ws_push (u' := pm_made u) rfl (by show pm_cell G (pm_kx u.1) (pm_fz u.2.1 u.1 0 u.1) (pm_fz u.2.2.1 u.1 false u.1) (pm_fz u.2.2.2 u.1 none u.1) = _; rw [pm_fz_at, pm_fz_at, pm_fz_at]) (fun a ha => pm_fz_ne ha) (fun a ha => pm_fz_ne ha) (fun a ha => pm_fz_ne ha)] at hP
  exact hP
theorem pm_grow_S {H1 : Heap} (hS : va_S (pm_A G) s.heap H locs) (z1 : H1.size = H.size + 1) (o1 : ∀ q, q < H.size → H1[q]? = H[q]?) : va_S (pm_A G) s.heap H1 locs := ⟨Nat.le_trans hS.1 (by omega), fun x h1 h2 => (o1 x (Nat.lt_of_lt_of_le h1 hS.1)).trans (hS.2.1 x h1 h2), hS.2.2⟩
theorem pm_new_spec {dd : pm_Kd} {kg : List pm_V → pm_S → Prop} (h : pm_new dd st u kg False) : pm_kd u.1 = some dd ∧ kg (.inr (.inr (.inl (some u.1))) :: st) (pm_made u) := by
  unfold pm_new at h
  cases hk : pm_kd u.1 with
  | none => rw [hk] at h; exact h.elim
  | some d0 =>
    rw [hk] at h
    rcases d0 with a | ⟨a, x⟩ <;> rcases dd with b | ⟨b, y⟩
    · dsimp only at h
      cases hb : Nat.beq a b with
      | false => rw [hb] at h; exact h.elim
      | true => rw [hb] at h; have := pm_beq hb; subst this; exact ⟨rfl, h⟩
    · exact h.elim
    · exact h.elim
    · dsimp only at h
      cases hb : (Nat.beq a b && Nat.beq x y) with
      | false => rw [hb] at h; exact h.elim
      | true =>
        rw [hb] at h
        simp only [Bool.and_eq_true] at hb
        have h1 := pm_beq hb.1
        have h2 := pm_beq hb.2
        subst h1; subst h2
        exact ⟨rfl, h⟩
/-- room for one more -/
theorem pm_room1 {sz : Nat} (hR : nf - n0 ≤ R.cells ∧ pm_sl nf - pm_sl n0 ≤ R.slots) (hn : n0 ≤ u.1) (hnf : u.1 + 1 ≤ nf) (hsz : pm_sz u.1 = sz) : (u.1 - n0) + 1 ≤ R.cells ∧ (pm_sl u.1 - pm_sl n0) + sz ≤ R.slots ∧ (u.1 - n0) + 1 = u.1 + 1 - n0 ∧ (pm_sl u.1 - pm_sl n0) + sz = pm_sl (u.1 + 1) - pm_sl n0 := by
  have h1 : pm_sl (u.1 + 1) = pm_sl u.1 + sz := by rw [← hsz]; rfl
  have h2 := pm_sl_le hn
  have h3 := pm_sl_le hnf
  omega
theorem pm_s_new {i : Nat} {cal : Nat → List pm_V → pm_S → Option pm_Rs} {rk : Nat} {kr : pm_Rs → Prop} (E : pm_E G sc M d p R s m args meth c) (hR : nf - n0 ≤ R.cells ∧ pm_sl nf - pm_sl n0 ≤ R.slots) (hd : decode M.2.1 pc = .ok (.new i, 3)) (ho : pm_oki MT M pc (.new i) ax = true)
    (h : pm_do cal sc rk (.new i) (pc + 3) ax lv st u (pm_kk p l e R s m args below meth c Q G M.2.2.1 n0 nf) kr False) : pm_PW p l e R s m args below meth c Q G M.2.2.1 n0 pc lv st u := by
  obtain ⟨hx, hb, -, hown, hga, hK, hX, -⟩ := E
  rcases ax with _ | ⟨ci, ax⟩
  · exact h.elim
  · obtain ⟨hkd, hk⟩ := pm_new_spec h
    simp only [pm_oki, Bool.and_eq_true] at ho
    obtain ⟨⟨⟨hci, hcl⟩, hinst⟩, hini⟩ := ho
    have hci' : ci < 7 := pm_blt hci
    intro H locs ls hl hH hS hn
    have hcl7 : ci < pm_fd.length := hci'
    have hfd : pm_fd[ci]? = some pm_fd[ci] := List.getElem?_eq_getElem hcl7
    have hnm : (pm_fd[ci]).1 = pm_cn ci := by
      have h1 := List.all_eq_true.mp pm_fd_cn ci (List.mem_range.mpr hci')
      have h2 := of_decide_eq_true h1
      rw [List.getD_eq_getElem?_getD, hfd] at h2
      exact h2
    have h0 : pm_fs0 ci = (pm_fd[ci]).2 := by unfold pm_fs0; rw [List.getD_eq_getElem?_getD, hfd]; rfl
    have hc : pm_cl[ci]? = some ((pm_fd[ci]).1, pm_T (pm_fd[ci]).2, (pm_fd[ci]).2.length) := by unfold pm_cl; rw [List.getElem?_map, hfd]; rfl
    have hm : pm_fd[ci] ∈ pm_fd := List.getElem_mem hcl7
    have hw : ∀ w ∈ u_ws (pm_fd[ci]).1 (pm_T (pm_fd[ci]).2) (pm_fd[ci]).2.length, w ∈ pm_ga := fun w hw => pm_in (List.all_eq_true.mp (List.all_eq_true.mp pm_fdw _ hm) w hw)
    have hpt : ∀ k, k < (pm_fd[ci]).2.length → parseFieldDescriptor (pm_T (pm_fd[ci]).2 k).2.2.1 = some (pm_ft ((pm_fd[ci]).2.getD k ("", "", "", false, 0))) := fun k hk => of_decide_eq_true (List.all_eq_true.mp (List.all_eq_true.mp pm_fdt _ hm) k (List.mem_range.mpr hk))
    have hKn := hK.1.1 ci _ hc
    have hsz : pm_sz u.1 = (pm_fs0 ci).length := by unfold pm_sz; rw [pm_kx_of hkd]
    obtain ⟨r1, r2, r3, r4⟩ := pm_room1 hR hn hk.1 hsz
    refine W.newcK hx hb hown (hga _ (pm_in hcl)) (hga _ (pm_in hinst)) (hga _ (pm_in hini)) rfl hd r1 r2 (by rw [← hnm]; exact hKn.2.1) rfl fun H1 kC hkC e1 z1 o1 => ?_
    have hgrow : pm_H G (pm_made u) H1 := by
      refine pm_grow hH z1 o1 ?_
      rw [pm_kx_of hkd]
      refine ⟨_, hc, ?_⟩
      have hborn := u_born (o := H.size) _ hga hw hKn hkC e1 hpt
      rw [hH.1] at hborn
      refine hborn.to (fun k hk => ?_)
      have hq : (pm_fd[ci]).2[k]? = some (pm_fd[ci]).2[k] := List.getElem?_eq_getElem hk
      obtain ⟨-, -, -, -, htl, -, -, -, hgd, hty⟩ := pm_slot (C := (pm_fd[ci]).1) (fs := (pm_fd[ci]).2) hfd hq
      show _ = vp_V (pm_fs (pm_tl (pm_fs0 ci)) G.2.2.1 (fun _ => 0) (fun _ => false) (fun _ => none)) k
      rw [hgd, h0]
      unfold vp_V
      rw [List.getD_eq_getElem?_getD, pm_fs_get (by unfold pm_tl; rw [List.length_map]; exact hk), htl]
      rcases hty with ⟨t1, t2⟩ | ⟨t1, t2⟩ | ⟨t1, t2⟩
      · rw [t1, t2]; rfl
      · rw [t1, t2]; rfl
      · rw [t1]
        revert t2
        cases pm_ft (pm_fd[ci]).2[k] <;> intro t2 <;> first | rfl | cases t2
    have h2 := hk.2 H1 locs ls hl hgrow (pm_grow_S hS z1 o1) (Nat.le_succ_of_le hn)
    rw [r3, r4, hH.1]
    exact h2
theorem pm_s_newarray {a : Jvm.ClassFile.ArrayType} {cal : Nat → List pm_V → pm_S → Option pm_Rs} {rk : Nat} {kr : pm_Rs → Prop} (E : pm_E G sc M d p R s m args meth c) (hR : nf - n0 ≤ R.cells ∧ pm_sl nf - pm_sl n0 ≤ R.slots) (hd : decode M.2.1 pc = .ok (.newarray a, 2)) (ho : pm_oki MT M pc (.newarray a) ax = true)
    (h : pm_do cal sc rk (.newarray a) (pc + 2) ax lv st u (pm_kk p l e R s m args below meth c Q G M.2.2.1 n0 nf) kr False) : pm_PW p l e R s m args below meth c Q G M.2.2.1 n0 pc lv st u := by
  obtain ⟨hx, hb, -, hown, hga, hK, hX, -⟩ := E
  rcases ax with _ | ⟨t, _ | ⟨t2, ax⟩⟩
  · exact h.elim
  · rcases st with _ | ⟨i | v, st⟩
    · exact h.elim
    · change (bif !(decide (i < 0)) then _ else False) at h
      by_cases hneg : i < 0
      · rw [decide_eq_true hneg] at h
        exact h.elim
      · rw [decide_eq_false hneg] at h
        obtain ⟨hkd, hk⟩ := pm_new_spec h
        intro H locs ls hl hH hS hn
        have hsz : pm_sz u.1 = i.toNatClampNeg := by unfold pm_sz; rw [pm_kx_of hkd]
        obtain ⟨r1, r2, r3, r4⟩ := pm_room1 hR hn hk.1 hsz
        have hlen : i.toNatClampNeg ≤ 144 := by
          have key : (pm_kds.all (fun c => c.all (fun q => match q with | .inl _ => true | .inr a => Nat.ble a.2 144))) = true := by decide
          have hmem : (Sum.inr (t, i.toNatClampNeg) : pm_Kd) ∈ pm_kds.getD (u.1 / 8) [] := List.mem_of_getElem? hkd
          have hmem2 : pm_kds.getD (u.1 / 8) [] ∈ pm_kds := by
            rw [List.getD_eq_getElem?_getD] at hmem ⊢
            cases hq : pm_kds[u.1 / 8]? with
            | none => rw [hq] at hmem; cases hmem
            | some ch => exact List.mem_of_getElem? hq
          exact Nat.le_of_ble_eq_true (List.all_eq_true.mp (List.all_eq_true.mp key _ hmem2) _ hmem)
        simp only [pm_oki, Bool.or_eq_true, Bool.and_eq_true, decide_eq_true_eq] at ho
        rcases ho with ⟨⟨ha, ht⟩, hac⟩ | ⟨⟨ha, ht⟩, hac⟩
        · subst ha
          have ht0 := pm_beq ht
          subst ht0
          refine va_newaK hx hb (atype := .int) (hga _ (pm_in hac)) rfl hd rfl hneg rfl (by show _ * 4 ≤ _; omega) r1 r2 hH.1 fun H1 cA e1 z1 o1 hAr hNm => ?_
          have hcA : cA = G.2.1 0 := Option.some.inj (hNm.symm.trans (hK.1.2 0 _ rfl).2)
          subst hcA
          have hgrow : pm_H G (pm_made u) H1 := by
            refine pm_grow hH (by rw [z1, hH.1]) (fun q hq => o1 q (by rw [hH.1] at hq; exact hq)) ?_
            rw [pm_kx_of hkd]
            exact e1
          have h2 := hk.2 H1 locs ls hl hgrow (pm_grow_S hS (by rw [z1, hH.1]) (fun q hq => o1 q (by rw [hH.1] at hq; exact hq))) (Nat.le_succ_of_le hn)
          rw [r3, r4]
          exact h2
        · subst ha
          have ht0 := pm_beq ht
          subst ht0
          refine va_newaK hx hb (atype := .boolean) (hga _ (pm_in hac)) rfl hd rfl hneg rfl (by show _ * 1 ≤ _; omega) r1 r2 hH.1 fun H1 cA e1 z1 o1 hAr hNm => ?_
          have hcA : cA = G.2.1 1 := Option.some.inj (hNm.symm.trans (hK.1.2 1 _ rfl).2)
          subst hcA
          have hgrow : pm_H G (pm_made u) H1 := by
            refine pm_grow hH (by rw [z1, hH.1]) (fun q hq => o1 q (by rw [hH.1] at hq; exact hq)) ?_
            rw [pm_kx_of hkd]
            exact e1
          have h2 := hk.2 H1 locs ls hl hgrow (pm_grow_S hS (by rw [z1, hH.1]) (fun q hq => o1 q (by rw [hH.1] at hq; exact hq))) (Nat.le_succ_of_le hn)
          rw [r3, r4]
          exact h2
    · exact h.elim
  · rcases st with _ | ⟨i | v, st⟩ <;> exact h.elim
theorem pm_s_anewarray {i0 : Nat} {cal : Nat → List pm_V → pm_S → Option pm_Rs} {rk : Nat} {kr : pm_Rs → Prop} (E : pm_E G sc M d p R s m args meth c) (hR : nf - n0 ≤ R.cells ∧ pm_sl nf - pm_sl n0 ≤ R.slots) (hd : decode M.2.1 pc = .ok (.anewarray i0, 3)) (ho : pm_oki MT M pc (.anewarray i0) ax = true)
    (h : pm_do cal sc rk (.anewarray i0) (pc + 3) ax lv st u (pm_kk p l e R s m args below meth c Q G M.2.2.1 n0 nf) kr False) : pm_PW p l e R s m args below meth c Q G M.2.2.1 n0 pc lv st u := by
  obtain ⟨hx, hb, -, hown, hga, hK, hX, -⟩ := E
  rcases ax with _ | ⟨t, _ | ⟨t2, ax⟩⟩
  · exact h.elim
  · rcases st with _ | ⟨i | v, st⟩
    · exact h.elim
    · change (bif !(decide (i < 0)) then _ else False) at h
      by_cases hneg : i < 0
      · rw [decide_eq_true hneg] at h
        exact h.elim
      · rw [decide_eq_false hneg] at h
        obtain ⟨hkd, hk⟩ := pm_new_spec h
        intro H locs ls hl hH hS hn
        have hsz : pm_sz u.1 = i.toNatClampNeg := by unfold pm_sz; rw [pm_kx_of hkd]
        obtain ⟨r1, r2, r3, r4⟩ := pm_room1 hR hn hk.1 hsz
        have hlen : i.toNatClampNeg ≤ 144 := by
          have key : (pm_kds.all (fun c => c.all (fun q => match q with | .inl _ => true | .inr a => Nat.ble a.2 144))) = true := by decide
          have hmem : (Sum.inr (t, i.toNatClampNeg) : pm_Kd) ∈ pm_kds.getD (u.1 / 8) [] := List.mem_of_getElem? hkd
          have hmem2 : pm_kds.getD (u.1 / 8) [] ∈ pm_kds := by
            rw [List.getD_eq_getElem?_getD] at hmem ⊢
            cases hq : pm_kds[u.1 / 8]? with
            | none => rw [hq] at hmem; cases hmem
            | some ch => exact List.mem_of_getElem? hq
          exact Nat.le_of_ble_eq_true (List.all_eq_true.mp (List.all_eq_true.mp key _ hmem2) _ hmem)
        have fin : ∀ (C : String), va_AO C s → Cond.classLink M.1.cls i0 C ∈ pm_ga → (pm_tys G.2.1)[t]? = some (G.2.1 t, .object C) → 2 ≤ t → W p l e R s m args below meth c H locs (u.1 - n0) (pm_sl u.1 - pm_sl n0) Q (F0 m pc ls (.int i :: st.map (pm_vl G.2.2.1 G.2.2.2))) := by
          intro C hao hlk hty h2t
          refine W.anew hx hb hown (hga _ hlk) (va_AO.use hao) rfl hd rfl hneg (by omega) r1 r2 fun cA kA comp f1 f2 f3 f4 => ?_
          obtain ⟨kA', comp', -, -, -, k4⟩ := (hK.1.2 t _ hty).2
          have hcA : cA = G.2.1 t := Option.some.inj (f1.symm.trans k4)
          subst hcA
          generalize hH1 : H.push ({ cls := G.2.1 t, slots := Array.replicate i.toNatClampNeg .null, vm := .none } : Cell) = H1
          have z1 : H1.size = H.size + 1 := by rw [← hH1, Array.size_push]
          have e1 : H1[H.size]? = some (arrV (G.2.1 t) i.toNatClampNeg (fun _ => .null)) := by rw [← hH1, Array.getElem?_push_size, ← arrV_new]
          have o1 : ∀ q : Nat, q < H.size → H1[q]? = H[q]? := fun q hq => by rw [← hH1, Array.getElem?_push, if_neg (Nat.ne_of_lt hq)]
          have hgrow : pm_H G (pm_made u) H1 := by
            refine pm_grow hH z1 o1 ?_
            rw [pm_kx_of hkd]
            show H1[G.2.2.1 + u.1]? = some (vp_cell (G.2.1 t) (i.toNatClampNeg, pm_ac t G.2.2.1 (fun _ => 0) (fun _ => false) (fun _ => none)))
            rw [← hH.1, e1, pm_ac_cell]
            rcases t with _ | _ | t
            · omega
            · omega
            · rfl
          have h2 := hk.2 H1 locs ls hl hgrow (pm_grow_S hS z1 o1) (Nat.le_succ_of_le hn)
          rw [r3, r4, hH.1]
          exact h2
        simp only [pm_oki, Bool.or_eq_true, Bool.and_eq_true] at ho
        rcases ho with ⟨ht, hac⟩ | ⟨ht, hac⟩
        · have ht0 := pm_beq ht
          subst ht0
          exact fin _ hK.2.2.1 (pm_in hac) rfl (by decide)
        · have ht0 := pm_beq ht
          subst ht0
          exact fin _ hK.2.2.2 (pm_in hac) rfl (by decide)
    · exact h.elim
  · rcases st with _ | ⟨i | v, st⟩ <;> exact h.elim
end PMA
end
section
/-! Calls, and the whole: what my small machine does, the model does. -/
theorem pm_pop_spec : ∀ (n : Nat) (acc st as st' : List pm_V), pm_pop n acc st = some (as, st') → ∃ pre, st = pre ++ st' ∧ as = pre.reverse ++ acc ∧ pre.length = n
  | 0, acc, st, as, st', h => by cases h; exact ⟨[], rfl, rfl, rfl⟩
  | n + 1, acc, [], as, st', h => by cases h
  | n + 1, acc, v :: st, as, st', h => by
    obtain ⟨pre, h1, h2, h3⟩ := pm_pop_spec n (v :: acc) st as st' h
    exact ⟨v :: pre, by rw [h1]; rfl, by rw [h2]; simp, by simp [h3]⟩
theorem pm_pop0 {n : Nat} {st as st' : List pm_V} (h : pm_pop n [] st = some (as, st')) : st = as.reverse ++ st' ∧ as.length = n := by
  obtain ⟨pre, h1, h2, h3⟩ := pm_pop_spec n [] st as st' h
  rw [List.append_nil] at h2
  exact ⟨by rw [h2, List.reverse_reverse]; exact h1, by rw [h2, List.length_reverse]; exact h3⟩
theorem pm_catsum (z b : Nat) : ∀ st : List pm_V, ((st.map (pm_vl z b)).map fun v => v.category).sum = st.length
  | [] => rfl
  | v :: st => by
    rw [List.map_cons, List.map_cons, List.sum_cons, pm_cat, pm_catsum z b st, List.length_cons]
    omega
theorem pm_gd_spec {st : List pm_V} {a : Prop} (h : pm_gd st a False) : st.length ≤ 8 ∧ a := by
  unfold pm_gd at h
  cases hb : Nat.ble st.length 8 with
  | false => rw [hb] at h; exact h.elim
  | true => rw [hb] at h; exact ⟨Nat.le_of_ble_eq_true hb, h⟩
theorem pm_call1_spec {kg : Option pm_V → pm_S → Prop} {r : Option pm_Rs} (h : pm_call1 kg False r) : ∃ v u', r = some (v, u') ∧ kg v u' := by
  rcases r with _ | ⟨v, u'⟩
  · exact h.elim
  · exact ⟨v, u', rfl, h⟩
theorem pm_pair_mem {MT : List pm_Mt} {own : String} {i na xn : Nat} : ∀ (ps : List Nat) (ci mi : Nat), pm_pair ps ci = some mi → pm_okp MT own i na xn ps = true → ci < 7 ∧ pm_okc MT mi (na + 1) (fun M => pm_okv own i na (pm_cn xn) (pm_cn ci) M.1) = true
  | [], _, _, h, _ => by cases h
  | [_], _, _, h, _ => by cases h
  | a :: b :: t, ci, mi, h, ho => by
    unfold pm_pair at h
    unfold pm_okp at ho
    simp only [Bool.and_eq_true] at ho
    cases hb : Nat.beq a ci with
    | true =>
      rw [hb] at h
      have e1 := pm_beq hb
      have e2 : b = mi := Option.some.inj h
      subst e1; subst e2
      exact ⟨pm_blt ho.1.1, ho.1.2⟩
    | false =>
      rw [hb] at h
      exact pm_pair_mem t ci mi h ho.2
theorem pm_okc_spec {MT : List pm_Mt} {mi na : Nat} {k : pm_Mt → Bool} (h : pm_okc MT mi na k = true) : ∃ N, MT[mi]? = some N ∧ Cond.code N.1 N.2.1 N.2.2.1 N.2.2.2.1 ∈ pm_ga ∧ Cond.initialized N.1.cls ∈ pm_ga ∧ na ≤ N.2.2.1 ∧ N.2.2.1 ≤ 11 ∧ k N = true := by
  unfold pm_okc at h
  cases hN : MT[mi]? with
  | none => rw [hN] at h; cases h
  | some N =>
    rw [hN] at h
    simp only [Bool.and_eq_true] at h
    exact ⟨N, rfl, pm_in h.1.1.1.1, pm_in h.1.1.1.2, Nat.le_of_ble_eq_true h.1.1.2, Nat.le_of_ble_eq_true h.1.2, h.2⟩
theorem pm_desc_spec {y : MethodName} {na : Nat} (h : pm_desc y na = true) : y.cls ≠ "java/lang/invoke/MethodHandle" ∧ y.cls ≠ "java/lang/invoke/VarHandle" ∧ (parseMethodDescriptor y.desc).map (fun d => d.parameters.length) = some na := by
  simp only [pm_desc, Bool.and_eq_true, decide_eq_true_eq] at h
  exact ⟨h.1.1, h.1.2, h.2⟩
section PMC
variable {p : Program} {l : Launch} {e : Env} {R : Room} {s : State} {m : MethodId} {args : Array Value} {below : List Frame} {meth : Method} {c : Code} {Q : State → Prop}
variable {G : pm_G} {sc : pm_Sc} {M : pm_Mt} {d n0 nf : Nat} {MT : List pm_Mt} {pc : Nat} {ax : List Nat} {lv : pm_Lv} {st : List pm_V} {u u' : pm_S} {v : Option pm_V}
variable {H : Heap} {locs : List Loc} {cells slots mc ms : Nat} {ls : Array Slot} {rest st0 : List Value} {a : Array Value}
theorem pm_w_call {w : Option Value} (hr : va_Run p l e R s m args below meth c H locs cells slots mc ms (F0 m pc ls st0) rest (pm_Q G w u' a) (pm_A G)) (hS : va_S (pm_A G) s.heap H locs)
    (kk : ∀ (H1 : Heap) (locs1 : List Loc), pm_H G u' H1 → va_S (pm_A G) s.heap H1 locs1 → W p l e R s m args below meth c H1 locs1 (cells + mc) (slots + ms) Q (F0 m (pc + 3) ls (w.toList ++ rest))) : W p l e R s m args below meth c H locs cells slots Q (F0 m pc ls st0) := by
  intro T hT X
  obtain ⟨v', st₀, t, T', L, h0, X', hL, e1, e2, ⟨hv, hP, hz, hk⟩, st⟩ := hr T hT X
  cases hv
  rw [h0] at hz hk
  obtain ⟨t2, a1, b1⟩ := kk T'.heap (locs ++ L) (by rw [e1]; exact hP) ⟨Nat.le_trans hS.1 (by rw [e1]; exact hz), fun q h1 h2 => by rw [e1, hk q (Nat.lt_of_lt_of_le h1 hS.1) h2]; exact hS.2.1 q h1 h2, fun q hq => by
    rcases List.mem_append.mp hq with h | h
    · exact hS.2.2 q h
    · exact hL q h⟩ T' rfl X'
  exact ⟨t2, st t2 a1, b1⟩
/-- the start of a callee, from here -/
theorem pm_pre (E : pm_E G sc M d p R s m args meth c) (hH : pm_H G u H) (hS : va_S (pm_A G) s.heap H locs) (av : List pm_V) : PreS s H (pm_Pc G sc av u) (av.map (pm_vl G.2.2.1 G.2.2.2)) := by
  obtain ⟨hx, hb, -, hown, hga, hK, hX, -⟩ := E
  refine ⟨pm_blind G sc av u, fun U hU hW => ⟨rfl, by rw [hU]; exact hH, hK.moved hW, ?_, hX.2⟩⟩
  rw [hU]
  have hbl : G.2.2.2 < s.heap.size := (Array.getElem?_eq_some_iff.mp hX.1.choose_spec.1).1
  exact (hX.1.kept (hS.2.1 G.2.2.2 hbl (fun q => by have q' : G.2.2.1 ≤ G.2.2.2 := q; have := hX.2; omega))).moved hW.alike
theorem pm_room2 {R : Room} {d d' nL mc ms : Nat} (hd : d = d' + 1) (h1 : d + 1 ≤ R.frames) (h2 : 30 * (d + 1) ≤ R.locals) (hn : nL ≤ 11) : (pm_rm d' mc ms).frames + 1 ≤ R.frames ∧ 8 + (nL + 11) + (pm_rm d' mc ms).locals ≤ R.locals := by
  show d' + 1 + 1 ≤ R.frames ∧ 8 + (nL + 11) + 30 * (d' + 1) ≤ R.locals
  omega
theorem pm_code_in {N : pm_Mt} (h : Cond.code N.1 N.2.1 N.2.2.1 N.2.2.2.1 ∈ pm_ga) : ∀ w ∈ (Cond.code N.1 N.2.1 N.2.2.1 N.2.2.2.1 :: pm_ga), w ∈ pm_ga := by
  intro w hw
  rcases List.mem_cons.mp hw with rfl | hw
  · exact h
  · exact hw
theorem pm_w_virt {i na xn k ci d' : Nat} {as : List pm_V} {N : pm_Mt} (E : pm_E G sc M d p R s m args meth c) (hH : pm_H G u H) (hS : va_S (pm_A G) s.heap H locs) (hcls : pm_cls u.1 k = some ci) (hci : ci < 7) (hcd : Cond.code N.1 N.2.1 N.2.2.1 N.2.2.2.1 ∈ pm_ga) (hini : Cond.initialized N.1.cls ∈ pm_ga) (hnL : N.2.2.1 ≤ 11) (hok : pm_okv M.1.cls i na (pm_cn xn) (pm_cn ci) N.1 = true) (hdd : d = d' + 1)
    (hM : pm_M l G sc d' N (.inr (.inr (.inl (some k))) :: as) u v u') (hlen : as.length = na) (hls : ls.size = M.2.2.1) (hst : st.length ≤ 8) (hd : decode M.2.1 pc = .ok (.invokevirtual i, 3)) (hf : cells + (u'.1 - u.1) ≤ R.cells ∧ slots + (pm_sl u'.1 - pm_sl u.1) ≤ R.slots) :
    va_Run p l e R s m args below meth c H locs cells slots (u'.1 - u.1) (pm_sl u'.1 - pm_sl u.1) (F0 m pc ls ((as.map (pm_vl G.2.2.1 G.2.2.2)).reverse ++ .ref (G.2.2.1 + k) :: st.map (pm_vl G.2.2.1 G.2.2.2))) (st.map (pm_vl G.2.2.1 G.2.2.2)) (pm_Q G (v.map (pm_vl G.2.2.1 G.2.2.2)) u' (Value.ref (G.2.2.1 + k) :: as.map (pm_vl G.2.2.1 G.2.2.2)).toArray) (pm_A G) := by
  have hpre := pm_pre E hH hS (.inr (.inr (.inl (some k))) :: as)
  obtain ⟨hx, hb, hml, hown, hga, hK, hX, -, hfr, hlo⟩ := E
  obtain ⟨hkn, hkd⟩ := pm_cls_spec hcls
  have hcl7 : ci < pm_fd.length := hci
  have hfd : pm_fd[ci]? = some pm_fd[ci] := List.getElem?_eq_getElem hcl7
  have hnm : (pm_fd[ci]).1 = pm_cn ci := by
    have h1 := List.all_eq_true.mp pm_fd_cn ci (List.mem_range.mpr hci)
    have h2 := of_decide_eq_true h1
    rw [List.getD_eq_getElem?_getD, hfd] at h2
    exact h2
  have hc : pm_cl[ci]? = some ((pm_fd[ci]).1, pm_T (pm_fd[ci]).2, (pm_fd[ci]).2.length) := by unfold pm_cl; rw [List.getElem?_map, hfd]; rfl
  obtain ⟨cell, r1, r2, r3⟩ := va_recv hK.1 hH.2 hc (pm_w_cell hkn hkd)
  have hP : PreV s H (pm_cn ci) (G.2.2.1 + k) (pm_Pc G sc (.inr (.inr (.inl (some k))) :: as) u) (as.map (pm_vl G.2.2.1 G.2.2.2)) := ⟨hpre.1, ⟨cell, r1, r2, by rw [← hnm]; exact r3⟩, hpre.2⟩
  have hS0 : CallFix p m c M.2.1 M.2.2.1 s args pm_ga M.1.cls := ⟨hx, hb, hml, hown, hga⟩
  have hR := pm_room2 (mc := u'.1 - u.1) (ms := pm_sl u'.1 - pm_sl u.1) hdd hfr hlo hnL
  have hW8 : 2 * (F0 m pc ls ((as.map (pm_vl G.2.2.1 G.2.2.2)).reverse ++ .ref (G.2.2.1 + k) :: st.map (pm_vl G.2.2.1 G.2.2.2))).monitorRoom + ((st.map (pm_vl G.2.2.1 G.2.2.2)).map fun v => v.category).sum ≤ 8 := by
    rw [pm_catsum]
    show 2 * 0 + st.length ≤ 8
    omega
  have hlen' : (as.map (pm_vl G.2.2.1 G.2.2.2)).length = na := by rw [List.length_map]; exact hlen
  simp only [pm_okv, Bool.and_eq_true, Bool.or_eq_true, decide_eq_true_eq] at hok
  obtain ⟨⟨hds, hinst⟩, hok⟩ := hok
  have hds' := pm_desc_spec hds
  rcases hok with ⟨⟨⟨hxc, hyc⟩, hsel⟩, hlk⟩ | ⟨⟨hlk, hsel⟩, hsame⟩
  · rcases hlk with hlk | hlk
    · refine va_runV hS0 hM (cwV na hga (pm_goodIn fun w hw => ?_) rfl rfl rfl ⟨hyc, hds'⟩ hR) hP rfl hlen' hls rfl hW8 hd hf
      rcases List.mem_append.mp hw with hw | hw
      · simp only [List.mem_cons, List.not_mem_nil, or_false] at hw
        rcases hw with rfl | rfl | rfl | rfl
        · exact pm_in hlk
        · exact pm_in hinst
        · exact pm_in hsel
        · rw [← hyc]; exact hini
      · exact pm_code_in hcd w hw
    · exact va_runVN hS0 hM ⟨va_cnB na hga (pm_goodIn (pm_code_in hcd)) rfl rfl rfl (hK.2.1 _ hlk) (hga _ hini) hds' hR, hga _ (pm_in hinst), hga _ (pm_in hsel)⟩ hP rfl hlen' hls rfl hW8 hd hf
  · rcases hsame with hsame | ⟨⟨hsame, hdec⟩, hdx⟩
    · refine va_runU (x := ⟨pm_cn xn, N.1.name, N.1.desc⟩) (owner := N.1.cls) hS0 hM (va_cwU na hga (pm_goodIn fun w hw => ?_) rfl rfl rfl rfl hds' hR) hP rfl hlen' hls rfl hW8 hd hf
      rcases List.mem_append.mp hw with hw | hw
      · simp only [List.mem_cons, List.not_mem_nil, or_false] at hw
        rcases hw with rfl | rfl | rfl | rfl | rfl
        · exact pm_in hlk
        · exact pm_in hsame
        · exact pm_in hsel
        · exact pm_in hinst
        · exact hini
      · exact pm_code_in hcd w hw
    · refine va_runU (x := ⟨pm_cn xn, N.1.name, N.1.desc⟩) (owner := pm_cn xn) hS0 hM (va_cwA na hga (pm_goodIn fun w hw => ?_) rfl rfl rfl (hK.2.1 _ hdec) (pm_desc_spec hdx) hR) hP rfl hlen' hls rfl hW8 hd hf
      rcases List.mem_append.mp hw with hw | hw
      · simp only [List.mem_cons, List.not_mem_nil, or_false] at hw
        rcases hw with rfl | rfl | rfl | rfl | rfl
        · exact pm_in hlk
        · exact pm_in hsame
        · exact pm_in hsel
        · exact pm_in hinst
        · exact hini
      · exact pm_code_in hcd w hw
/-- what is known of calls from here -/
def pm_HC (l : Launch) (G : pm_G) (sc : pm_Sc) (MT : List pm_Mt) (d : Nat) (cal : Nat → List pm_V → pm_S → Option pm_Rs) : Prop := ∀ (mi : Nat) (N : pm_Mt) (av : List pm_V) (u : pm_S) (v : Option pm_V) (u' : pm_S), MT[mi]? = some N → av.length ≤ N.2.2.1 → cal mi av u = some (v, u') → u.1 ≤ u'.1 ∧ ∃ d', d = d' + 1 ∧ pm_M l G sc d' N av u v u'
theorem pm_room3 {a b x y z : Nat} (h1 : x ≤ y) (h2 : y ≤ z) : y - x + (z - y) = z - x := by omega
theorem pm_s_virt {i : Nat} {cal : Nat → List pm_V → pm_S → Option pm_Rs} {rk : Nat} {kr : pm_Rs → Prop} (E : pm_E G sc M d p R s m args meth c) (hR : nf - n0 ≤ R.cells ∧ pm_sl nf - pm_sl n0 ≤ R.slots) (hC : pm_HC l G sc MT d cal) (hd : decode M.2.1 pc = .ok (.invokevirtual i, 3)) (ho : pm_oki MT M pc (.invokevirtual i) ax = true)
    (h : pm_do cal sc rk (.invokevirtual i) (pc + 3) ax lv st u (pm_kk p l e R s m args below meth c Q G M.2.2.1 n0 nf) kr False) : pm_PW p l e R s m args below meth c Q G M.2.2.1 n0 pc lv st u := by
  rcases ax with _ | ⟨na, _ | ⟨xn, ps⟩⟩
  · exact h.elim
  · exact h.elim
  · change (match pm_pop na [] st with | some (as, st) => _ | none => False) at h
    cases hp : pm_pop na [] st with
    | none => rw [hp] at h; exact h.elim
    | some q =>
      obtain ⟨as, st1⟩ := q
      rw [hp] at h
      obtain ⟨k, ci, st2, rfl, hcls, hk⟩ := pm_obj_spec h
      obtain ⟨hst, hlen⟩ := pm_pop0 hp
      cases hpr : pm_pair ps ci with
      | none => rw [hpr] at hk; exact hk.elim
      | some mi =>
        rw [hpr] at hk
        obtain ⟨hs8, hk⟩ := pm_gd_spec hk
        obtain ⟨v, u', hcal, hk⟩ := pm_call1_spec hk
        obtain ⟨hci, hoc⟩ := pm_pair_mem ps ci mi hpr ho
        obtain ⟨N, hN, hcd, hini, hna, hnL, hok⟩ := pm_okc_spec hoc
        obtain ⟨hle, d', hdd, hM⟩ := hC mi N _ u v u' hN (by simp [hlen]; omega) hcal
        intro H locs ls hl hH hS hn
        have hsl1 := pm_sl_le hn
        have hsl2 := pm_sl_le hle
        have hsl3 := pm_sl_le hk.1
        have hk1 := hk.1
        have hrun := pm_w_virt (cells := u.1 - n0) (slots := pm_sl u.1 - pm_sl n0) (ls := ls) (st := st2) (e := e) (below := below) (meth := meth) E hH hS hcls hci hcd hini hnL hok hdd hM hlen hl.1 hs8 hd ⟨by omega, by omega⟩
        have hstk : st.map (pm_vl G.2.2.1 G.2.2.2) = (as.map (pm_vl G.2.2.1 G.2.2.2)).reverse ++ .ref (G.2.2.1 + k) :: st2.map (pm_vl G.2.2.1 G.2.2.2) := by
          rw [hst, List.map_append, List.map_reverse]
          rfl
        rw [hstk]
        refine pm_w_call hrun hS (fun H1 locs1 hH1 hS1 => ?_)
        have h2 := hk.2 H1 locs1 ls hl hH1 hS1 (by omega)
        rw [show u.1 - n0 + (u'.1 - u.1) = u'.1 - n0 by omega, show pm_sl u.1 - pm_sl n0 + (pm_sl u'.1 - pm_sl u.1) = pm_sl u'.1 - pm_sl n0 by omega]
        rw [List.map_append] at h2
        cases v <;> exact h2
theorem pm_s_spec {i : Nat} {cal : Nat → List pm_V → pm_S → Option pm_Rs} {rk : Nat} {kr : pm_Rs → Prop} (E : pm_E G sc M d p R s m args meth c) (hR : nf - n0 ≤ R.cells ∧ pm_sl nf - pm_sl n0 ≤ R.slots) (hC : pm_HC l G sc MT d cal) (hd : decode M.2.1 pc = .ok (.invokespecial i, 3)) (ho : pm_oki MT M pc (.invokespecial i) ax = true)
    (h : pm_do cal sc rk (.invokespecial i) (pc + 3) ax lv st u (pm_kk p l e R s m args below meth c Q G M.2.2.1 n0 nf) kr False) : pm_PW p l e R s m args below meth c Q G M.2.2.1 n0 pc lv st u := by
  rcases ax with _ | ⟨na, _ | ⟨mi, ax⟩⟩
  · rcases st with _ | ⟨x | b | (_ | k) | z, st⟩
    · exact h.elim
    · exact h.elim
    · exact h.elim
    · exact h.elim
    · obtain ⟨hs8, hk⟩ := pm_gd_spec h
      simp only [pm_oki, Bool.and_eq_true] at ho
      obtain ⟨hx, hb, hml, hown, hga, hK, hX, -, hfr, hlo⟩ := E
      intro H locs ls hl hH hS hn
      refine W.objInit hx hb hown (hga _ (pm_in ho.1.1)) (hga _ (pm_in ho.1.2)) (hga _ (pm_in ho.2)) rfl (hl.1.trans hml.symm) (a := G.2.2.1 + k) (rest := st.map (pm_vl G.2.2.1 G.2.2.2)) rfl hd (by omega) ?_ (hk.2 H locs ls hl hH hS hn)
      rw [pm_catsum]
      show 2 * 0 + st.length + 12 ≤ R.locals
      omega
    · exact h.elim
  · exact h.elim
  · change (match pm_pop na [] st with | some (as, .inr (.inr (.inl (some k))) :: st) => _ | _ => False) at h
    cases hp : pm_pop na [] st with
    | none => rw [hp] at h; exact h.elim
    | some q =>
      obtain ⟨as, st1⟩ := q
      rw [hp] at h
      rcases st1 with _ | ⟨x | b | (_ | k) | z, st2⟩
      · exact h.elim
      · exact h.elim
      · exact h.elim
      · exact h.elim
      · obtain ⟨hst, hlen⟩ := pm_pop0 hp
        obtain ⟨hs8, hk⟩ := pm_gd_spec h
        obtain ⟨v, u', hcal, hk⟩ := pm_call1_spec hk
        obtain ⟨N, hN, hcd, hini, hna, hnL, hok⟩ := pm_okc_spec ho
        obtain ⟨hle, d', hdd, hM⟩ := hC mi N _ u v u' hN (by simp [hlen]; omega) hcal
        intro H locs ls hl hH hS hn
        have hsl1 := pm_sl_le hn
        have hsl2 := pm_sl_le hle
        have hsl3 := pm_sl_le hk.1
        have hk1 := hk.1
        have hpre := pm_pre E hH hS (.inr (.inr (.inl (some k))) :: as)
        obtain ⟨hx, hb, hml, hown, hga, hK, hX, -, hfr, hlo⟩ := E
        have hS0 : CallFix p m c M.2.1 M.2.2.1 s args pm_ga M.1.cls := ⟨hx, hb, hml, hown, hga⟩
        have hRR := pm_room2 (mc := u'.1 - u.1) (ms := pm_sl u'.1 - pm_sl u.1) hdd hfr hlo hnL
        have hlen' : (as.map (pm_vl G.2.2.1 G.2.2.2)).length = na := by rw [List.length_map]; exact hlen
        simp only [Bool.and_eq_true, Bool.or_eq_true, decide_eq_true_eq] at hok
        obtain ⟨⟨⟨⟨hds, hnm⟩, hret⟩, hinst⟩, hlk⟩ := hok
        have hds' := pm_desc_spec hds
        have hW8 : 2 * (F0 m pc ls ((as.map (pm_vl G.2.2.1 G.2.2.2)).reverse ++ .ref (G.2.2.1 + k) :: st2.map (pm_vl G.2.2.1 G.2.2.2))).monitorRoom + ((st2.map (pm_vl G.2.2.1 G.2.2.2)).map fun v => v.category).sum ≤ 8 := by
          rw [pm_catsum]
          show 2 * 0 + st2.length ≤ 8
          omega
        have hM' := hM
        unfold pm_M at hM'
        rw [hret] at hM' hcd
        have hcd' : ∀ w ∈ (Cond.code N.1 N.2.1 N.2.2.1 none :: pm_ga), w ∈ pm_ga := by
          intro w hw
          rcases List.mem_cons.mp hw with rfl | hw
          · exact hcd
          · exact hw
        have hrun : va_Run p l e R s m args below meth c H locs (u.1 - n0) (pm_sl u.1 - pm_sl n0) (u'.1 - u.1) (pm_sl u'.1 - pm_sl u.1) (F0 m pc ls ((as.map (pm_vl G.2.2.1 G.2.2.2)).reverse ++ .ref (G.2.2.1 + k) :: st2.map (pm_vl G.2.2.1 G.2.2.2))) (st2.map (pm_vl G.2.2.1 G.2.2.2)) (pm_Q G (v.map (pm_vl G.2.2.1 G.2.2.2)) u' (Value.ref (G.2.2.1 + k) :: as.map (pm_vl G.2.2.1 G.2.2.2)).toArray) (pm_A G) := by
          rcases hlk with hlk | hlk
          · exact va_runI hS0 hM' (cwI na hga (pm_goodIn hcd') rfl rfl rfl (hga _ hini) (hga _ (pm_in hlk)) (hga _ (pm_in hinst)) hnm hds' hRR) hpre rfl hlen' hl.1 rfl hW8 hd ⟨by omega, by omega⟩
          · exact va_runIN hS0 hM' ⟨va_cnB na hga (pm_goodIn hcd') rfl rfl rfl (hK.2.1 _ hlk) (hga _ hini) hds' hRR, hnm, hga _ (pm_in hinst)⟩ hpre rfl hlen' hl.1 rfl hW8 hd ⟨by omega, by omega⟩
        have hstk : st.map (pm_vl G.2.2.1 G.2.2.2) = (as.map (pm_vl G.2.2.1 G.2.2.2)).reverse ++ .ref (G.2.2.1 + k) :: st2.map (pm_vl G.2.2.1 G.2.2.2) := by
          rw [hst, List.map_append, List.map_reverse]
          rfl
        rw [hstk]
        refine pm_w_call hrun hS (fun H1 locs1 hH1 hS1 => ?_)
        have h2 := hk.2 H1 locs1 ls hl hH1 hS1 (by omega)
        rw [show u.1 - n0 + (u'.1 - u.1) = u'.1 - n0 by omega, show pm_sl u.1 - pm_sl n0 + (pm_sl u'.1 - pm_sl u.1) = pm_sl u'.1 - pm_sl n0 by omega]
        rw [List.map_append] at h2
        cases v <;> exact h2
      · exact h.elim
theorem pm_s_static {i : Nat} {cal : Nat → List pm_V → pm_S → Option pm_Rs} {rk : Nat} {kr : pm_Rs → Prop} (E : pm_E G sc M d p R s m args meth c) (hR : nf - n0 ≤ R.cells ∧ pm_sl nf - pm_sl n0 ≤ R.slots) (hC : pm_HC l G sc MT d cal) (hd : decode M.2.1 pc = .ok (.invokestatic i, 3)) (ho : pm_oki MT M pc (.invokestatic i) ax = true)
    (h : pm_do cal sc rk (.invokestatic i) (pc + 3) ax lv st u (pm_kk p l e R s m args below meth c Q G M.2.2.1 n0 nf) kr False) : pm_PW p l e R s m args below meth c Q G M.2.2.1 n0 pc lv st u := by
  rcases ax with _ | ⟨na, _ | ⟨mi, ax⟩⟩
  · exact h.elim
  · obtain ⟨hx, hb, hml, hown, hga, hK, hX, -, hfr, hlo⟩ := E
    rcases na with _ | _ | na
    · obtain ⟨x, y, st', rfl, hk⟩ := pm_op2_spec h
      obtain ⟨hs8, hk⟩ := pm_gd_spec hk
      simp only [pm_oki, Bool.and_eq_true] at ho
      intro H locs ls hl hH hS hn
      have h1 := pm_sl_le hn
      have h2 := hk.1
      have h3 := pm_sl_le h2
      exact va_mmax hx hb (hml.trans hl.1.symm) hown (hga _ (pm_in ho.1.1.1)) (hga _ (pm_in ho.1.1.2)) (hga _ (pm_in ho.1.2)) (hga _ (pm_in ho.2)) (by omega) (by rw [pm_catsum]; omega) (by omega) (by omega) hd (hk.2 H locs ls hl hH hS hn)
    · obtain ⟨x, y, st', rfl, hk⟩ := pm_op2_spec h
      obtain ⟨hs8, hk⟩ := pm_gd_spec hk
      simp only [pm_oki, Bool.and_eq_true] at ho
      intro H locs ls hl hH hS hn
      have h1 := pm_sl_le hn
      have h2 := hk.1
      have h3 := pm_sl_le h2
      exact va_mmin hx hb (hml.trans hl.1.symm) hown (hga _ (pm_in ho.1.1.1)) (hga _ (pm_in ho.1.1.2)) (hga _ (pm_in ho.1.2)) (hga _ (pm_in ho.2)) (by omega) (by rw [pm_catsum]; omega) (by omega) (by omega) hd (hk.2 H locs ls hl hH hS hn)
    · exact h.elim
  · have h' : (match pm_pop na [] st with | some (as, st) => pm_gd st (pm_call1 (fun v u => pm_kk p l e R s m args below meth c Q G M.2.2.1 n0 nf (pc + 3) lv (v.toList ++ st) u) False (cal mi as u)) False | none => False) := by
      rcases na with _ | _ | na <;> exact h
    have ho' : pm_okc MT mi na (fun N => pm_desc N.1 na && pm_has (.static N.1) && ((decide (N.1.cls = M.1.cls) && pm_has (.methodLink M.1.cls i N.1)) || pm_hasN (.methodLinkNest M.1.cls i N.1 pm_host))) = true := by
      rcases na with _ | _ | na <;> exact ho
    cases hp : pm_pop na [] st with
    | none => rw [hp] at h'; exact h'.elim
    | some q =>
      obtain ⟨as, st2⟩ := q
      rw [hp] at h'
      obtain ⟨hst, hlen⟩ := pm_pop0 hp
      obtain ⟨hs8, hk⟩ := pm_gd_spec h'
      obtain ⟨v, u', hcal, hk⟩ := pm_call1_spec hk
      obtain ⟨N, hN, hcd, hini, hna, hnL, hok⟩ := pm_okc_spec ho'
      obtain ⟨hle, d', hdd, hM⟩ := hC mi N _ u v u' hN (by omega) hcal
      intro H locs ls hl hH hS hn
      have hsl1 := pm_sl_le hn
      have hsl2 := pm_sl_le hle
      have hsl3 := pm_sl_le hk.1
      have hk1 := hk.1
      have hpre := pm_pre E hH hS as
      obtain ⟨hx, hb, hml, hown, hga, hK, hX, -, hfr, hlo⟩ := E
      have hS0 : CallFix p m c M.2.1 M.2.2.1 s args pm_ga M.1.cls := ⟨hx, hb, hml, hown, hga⟩
      have hRR := pm_room2 (mc := u'.1 - u.1) (ms := pm_sl u'.1 - pm_sl u.1) hdd hfr hlo hnL
      have hlen' : (as.map (pm_vl G.2.2.1 G.2.2.2)).length = na := by rw [List.length_map]; exact hlen
      simp only [Bool.and_eq_true, Bool.or_eq_true, decide_eq_true_eq] at hok
      obtain ⟨⟨hds, hstat⟩, hlk⟩ := hok
      have hds' := pm_desc_spec hds
      have hW8 : 2 * (F0 m pc ls ((as.map (pm_vl G.2.2.1 G.2.2.2)).reverse ++ st2.map (pm_vl G.2.2.1 G.2.2.2))).monitorRoom + ((st2.map (pm_vl G.2.2.1 G.2.2.2)).map fun v => v.category).sum ≤ 8 := by
        rw [pm_catsum]
        show 2 * 0 + st2.length ≤ 8
        omega
      have hrun : va_Run p l e R s m args below meth c H locs (u.1 - n0) (pm_sl u.1 - pm_sl n0) (u'.1 - u.1) (pm_sl u'.1 - pm_sl u.1) (F0 m pc ls ((as.map (pm_vl G.2.2.1 G.2.2.2)).reverse ++ st2.map (pm_vl G.2.2.1 G.2.2.2))) (st2.map (pm_vl G.2.2.1 G.2.2.2)) (pm_Q G (v.map (pm_vl G.2.2.1 G.2.2.2)) u' (as.map (pm_vl G.2.2.1 G.2.2.2)).toArray) (pm_A G) := by
        rcases hlk with ⟨hcl, hlk⟩ | hlk
        · refine va_runS hS0 hM (cwS na hga (pm_goodIn fun w hw => ?_) rfl rfl rfl ⟨hcl, hds'⟩ hRR) hpre rfl hlen' hl.1 rfl hW8 hd ⟨by omega, by omega⟩
          rcases List.mem_append.mp hw with hw | hw
          · simp only [List.mem_cons, List.not_mem_nil, or_false] at hw
            rcases hw with rfl | rfl | rfl
            · exact pm_in hlk
            · exact pm_in hstat
            · rw [← hcl]; exact hini
          · exact pm_code_in hcd w hw
        · exact va_runSN hS0 hM ⟨va_cnB na hga (pm_goodIn (pm_code_in hcd)) rfl rfl rfl (hK.2.1 _ hlk) (hga _ hini) hds' hRR, hga _ (pm_in hstat), trivial⟩ hpre rfl hlen' hl.1 rfl hW8 hd ⟨by omega, by omega⟩
      have hstk : st.map (pm_vl G.2.2.1 G.2.2.2) = (as.map (pm_vl G.2.2.1 G.2.2.2)).reverse ++ st2.map (pm_vl G.2.2.1 G.2.2.2) := by
        rw [hst, List.map_append, List.map_reverse]
      rw [hstk]
      refine pm_w_call hrun hS (fun H1 locs1 hH1 hS1 => ?_)
      have h2 := hk.2 H1 locs1 ls hl hH1 hS1 (by omega)
      rw [show u.1 - n0 + (u'.1 - u.1) = u'.1 - n0 by omega, show pm_sl u.1 - pm_sl n0 + (pm_sl u'.1 - pm_sl u.1) = pm_sl u'.1 - pm_sl n0 by omega]
      rw [List.map_append] at h2
      cases v <;> exact h2
/-- one step -/
theorem pm_s_do {ins : Jvm.ClassFile.Instr} {nx rk : Nat} {cal : Nat → List pm_V → pm_S → Option pm_Rs} (E : pm_E G sc M d p R s m args meth c) (hR : nf - n0 ≤ R.cells ∧ pm_sl nf - pm_sl n0 ≤ R.slots) (hC : pm_HC l G sc MT d cal) (hd : decode M.2.1 pc = .ok (ins, pm_len ins (nx - pc))) (hnx : nx = pc + pm_len ins (nx - pc)) (ho : pm_oki MT M pc ins ax = true) (hrk : M.2.2.2.2.2 = rk) (hu : u.1 ≤ nf)
    (h : pm_do cal sc rk ins nx ax lv st u (pm_kk p l e R s m args below meth c Q G M.2.2.1 n0 nf) (pm_PE p l e R s m args below meth c Q G M.2.1 rk n0) False) : pm_PW p l e R s m args below meth c Q G M.2.2.1 n0 pc lv st u := by
  cases ins
  case getfield i => simp only [pm_len] at hnx hd; subst hnx; exact pm_s_get E hd ho h
  case putfield i => simp only [pm_len] at hnx hd; subst hnx; exact pm_s_put E hd ho h
  case iaload => simp only [pm_len] at hnx hd; subst hnx; exact pm_s_iaload E hd h
  case baload => simp only [pm_len] at hnx hd; subst hnx; exact pm_s_baload E hd h
  case aaload => simp only [pm_len] at hnx hd; subst hnx; exact pm_s_aaload E hd h
  case iastore => simp only [pm_len] at hnx hd; subst hnx; exact pm_s_iastore E hd h
  case bastore => simp only [pm_len] at hnx hd; subst hnx; exact pm_s_bastore E hd h
  case aastore => simp only [pm_len] at hnx hd; subst hnx; exact pm_s_aastore E hd h
  case arraylength =>
    simp only [pm_len] at hnx hd; subst hnx
    rcases st with _ | ⟨x | b | q | q, st⟩
    · exact h.elim
    · exact h.elim
    · exact h.elim
    · exact h.elim
    · exact pm_s_alen E hd h
  case new i => simp only [pm_len] at hnx hd; subst hnx; exact pm_s_new E hR hd ho h
  case newarray i => simp only [pm_len] at hnx hd; subst hnx; exact pm_s_newarray E hR hd ho h
  case anewarray i => simp only [pm_len] at hnx hd; subst hnx; exact pm_s_anewarray E hR hd ho h
  case invokevirtual i => simp only [pm_len] at hnx hd; subst hnx; exact pm_s_virt E hR hC hd ho h
  case invokespecial i => simp only [pm_len] at hnx hd; subst hnx; exact pm_s_spec E hR hC hd ho h
  case invokestatic i => simp only [pm_len] at hnx hd; subst hnx; exact pm_s_static E hR hC hd ho h
  all_goals exact pm_s_plain E hd hnx ho hrk hu rfl h
/-- a run, to its end -/
theorem pm_s_loop {rk : Nat} {cal : Nat → List pm_V → pm_S → Option pm_Rs} {r : pm_Rs} (E : pm_E G sc M d p R s m args meth c) (hok : pm_okm MT M = true) (hR : r.2.1 - n0 ≤ R.cells ∧ pm_sl r.2.1 - pm_sl n0 ≤ R.slots) (hC : pm_HC l G sc MT d cal) (hcn : ∀ mi av u v u', cal mi av u = some (v, u') → u.1 ≤ u'.1) (hrk : M.2.2.2.2.2 = rk)
    (hend : pm_PE p l e R s m args below meth c Q G M.2.1 rk n0 r) : ∀ (f pc : Nat) (lv : pm_Lv) (st : List pm_V) (u : pm_S), pm_loop cal sc rk M.2.2.2.2.1 f pc lv st u = some r → pm_PW p l e R s m args below meth c Q G M.2.2.1 n0 pc lv st u
  | 0, _, _, _, _, h => by cases h
  | f + 1, pc, lv, st, u, h => by
    have hu : u.1 ≤ r.2.1 := pm_loop_n hcn (f + 1) pc lv st u h
    have h1 : pm_stp cal sc rk M.2.2.2.2.1 pc lv st u (pm_kk p l e R s m args below meth c Q G M.2.2.1 n0 r.2.1) (pm_PE p l e R s m args below meth c Q G M.2.1 rk n0) False := by
      revert h
      exact pm_stp_rel (R := fun (a : Option pm_Rs) (q : Prop) => a = some r → q) (fun pc lv st u h => ⟨pm_loop_n hcn f pc lv st u h, pm_s_loop E hok hR hC hcn hrk hend f pc lv st u h⟩) (fun r' h => by cases h; exact hend) (fun h => by cases h)
    unfold pm_stp at h1
    cases hf : pm_find M.2.2.2.2.1 pc with
    | none => rw [hf] at h1; exact h1.elim
    | some q =>
      obtain ⟨ins, nx, ax⟩ := q
      rw [hf] at h1
      obtain ⟨k1, k2, k3⟩ := pm_find_ok hok hf
      exact pm_s_do E hR hC k1 k2 k3 hrk hu h1
end PMC
theorem pm_args_eq (z b : Nat) : ∀ (av : List pm_V) (i : Nat), lv_args i (av.map (pm_vl z b)) = pm_lvv z b (pm_args i av)
  | [], _ => rfl
  | v :: vs, i => by
    show (i, pm_vl z b v) :: lv_args (if (pm_vl z b v).category = 2 then i + 2 else i + 1) (vs.map (pm_vl z b)) = (i, pm_vl z b v) :: pm_lvv z b (pm_args (i + 1) vs)
    rw [pm_cat, if_neg (by decide), pm_args_eq z b vs (i + 1)]
theorem pm_slen (z b : Nat) : ∀ av : List pm_V, (lg_sl (av.map (pm_vl z b))).length = av.length
  | [] => rfl
  | v :: vs => by
    have ih := pm_slen z b vs
    unfold lg_sl at ih ⊢
    rw [List.map_cons, List.flatMap_cons, List.length_append, ih, pm_cat, if_neg (by decide), List.length_cons]
    simp
    omega
/-- a method's contract out of its run -/
theorem pm_s_met {l : Launch} {G : pm_G} {sc : pm_Sc} {MT : List pm_Mt} {M : pm_Mt} {d : Nat} {cal : Nat → List pm_V → pm_S → Option pm_Rs} {av : List pm_V} {u : pm_S} {r : pm_Rs} (hok : pm_okm MT M = true) (hC : pm_HC l G sc MT d cal) (hcn : ∀ mi av u v u', cal mi av u = some (v, u') → u.1 ≤ u'.1) (hlen : av.length ≤ M.2.2.1) {f : Nat} (h : pm_loop cal sc M.2.2.2.2.2 M.2.2.2.2.1 f 0 (pm_args 0 av) [] u = some r) : pm_M l G sc d M av u r.1 r.2 := by
  have hok2 := hok
  simp only [pm_okm, Bool.and_eq_true] at hok2
  refine Met.ofW (cc := M.2.1) (maxL := M.2.2.1) (ret := M.2.2.2.1) hok2.1.1 rfl ?_
  intro p e s m args below meth c s₁ B hml hv
  obtain ⟨rfl, hH, hK, hX⟩ := hv
  have hts := atoms_spec (ws := .code M.1 M.2.1 M.2.2.1 M.2.2.2.1 :: pm_ga) B.pre
  have hnm := (name_of_methodNamed B.named B.method).1
  have hret : meth.sig.returnType = M.2.2.2.1 := B.returns
  have hlk : meth.locks = false := B.notSynchronized
  rw [lg_entry_eq]
  have E : pm_E G sc M d p (headSpec (.code M.1 M.2.1 M.2.2.1 M.2.2.2.1 :: pm_ga) (pm_rm d (r.2.1 - u.1) (pm_sl r.2.1 - pm_sl u.1))).room s m (av.map (pm_vl G.2.2.1 G.2.2.2)).toArray meth c := ⟨B.exec, B.bytes, hml, findClass_of_methodNamed B.named, fun w hw => hts w (List.mem_cons_of_mem _ hw), hK, hX, fun q => hnm.trans q, Nat.le_refl _, Nat.le_refl _⟩
  have hloc : lv_has ((lg_sl (av.map (pm_vl G.2.2.1 G.2.2.2)) ++ List.replicate (M.2.2.1 - (lg_sl (av.map (pm_vl G.2.2.1 G.2.2.2))).length) Slot.unset).toArray) M.2.2.1 (pm_lvv G.2.2.1 G.2.2.2 (pm_args 0 av)) := by
    rw [← pm_args_eq]
    exact lv_entry _ (by rw [pm_slen]; exact hlen)
  have key := pm_s_loop (l := l) (e := e) (below := below) (n0 := u.1) (r := r) (Q := MQ below (pm_Q G (r.1.map (pm_vl G.2.2.1 G.2.2.2)) r.2) (av.map (pm_vl G.2.2.1 G.2.2.2)).toArray s (r.2.1 - u.1) (pm_sl r.2.1 - pm_sl u.1) (pm_A G)) E hok ⟨Nat.le_refl _, Nat.le_refl _⟩ hC hcn rfl ?_ f 0 (pm_args 0 av) [] u h s.heap [] _ hloc hH va_S.rf (Nat.le_refl _)
  · rw [Nat.sub_self, Nat.sub_self] at key
    exact key
  · intro H locs ls pc hHr hS hn hshp hd
    have hq : ∀ t : State, t.heap = H → s.WarmedH t.vm → pm_Q G (r.1.map (pm_vl G.2.2.1 G.2.2.2)) r.2 (av.map (pm_vl G.2.2.1 G.2.2.2)).toArray s (.returned (r.1.map (pm_vl G.2.2.1 G.2.2.2))) t := fun t ht _ => ⟨rfl, by rw [ht]; exact hHr, hS.F ht⟩
    have hrk := hok2.1.2
    obtain ⟨rv, ru⟩ := r
    revert hrk hret hshp hd
    generalize M.2.2.2.1 = ret
    generalize M.2.2.2.2.2 = rk
    intro hret hd hrk hshp
    rcases rk with _ | _ | _ | _ | rk
    · rcases rv with _ | v
      · rcases ret with _ | t
        · exact W.vret B.exec B.bytes hret hq hS.2.2 hd hlk
        · cases t <;> cases hrk
      · exact hshp.elim
    · rcases rv with _ | x | v
      · exact hshp.elim
      · rcases ret with _ | t
        · cases hrk
        · cases t <;> first | exact W.iret B.exec B.bytes hret hq hS.2.2 hd hlk | cases hrk
      · exact hshp.elim
    · rcases rv with _ | x | b | v
      · exact hshp.elim
      · exact hshp.elim
      · rcases ret with _ | t
        · cases hrk
        · cases t <;> first | (cases hrk; done) | exact W.zret B.exec B.bytes hret (by cases b <;> decide) hq hS.2.2 hd hlk
      · exact hshp.elim
    · rcases rv with _ | x | b | q | q
      · exact hshp.elim
      · exact hshp.elim
      · exact hshp.elim
      · rcases ret with _ | t
        · cases hrk
        · cases t <;> first | exact W.aret B.exec B.bytes hret (Or.inl ⟨_, rfl⟩) (va_rf_or _) hq hS.2.2 hd hlk | cases hrk
      · exact hshp.elim
    · rcases ret with _ | t
      · cases hrk
      · cases t <;> cases hrk
/-- all methods, at every depth -/
theorem pm_s_call {l : Launch} {G : pm_G} {sc : pm_Sc} {MT : List pm_Mt} {T : Nat → pm_Cd × Nat} (hT : ∀ mi N, MT[mi]? = some N → T mi = (N.2.2.2.2.1, N.2.2.2.2.2)) (hok : ∀ M ∈ MT, pm_okm MT M = true) : ∀ d : Nat, pm_HC l G sc MT (d + 1) (pm_call T sc d)
  | 0 => by
    intro mi N av u v u' hN hlen h
    refine ⟨pm_call_n 0 mi av u v u' h, 0, rfl, ?_⟩
    obtain ⟨f, hf⟩ := pm_ev_some h
    rw [hT mi N hN] at hf
    exact pm_s_met (r := (v, u')) (hok N (List.mem_of_getElem? hN)) (fun _ _ _ _ _ _ _ _ h => by cases h) (fun _ _ _ _ _ h => by cases h) hlen hf
  | d + 1 => by
    intro mi N av u v u' hN hlen h
    refine ⟨pm_call_n (d + 1) mi av u v u' h, d + 1, rfl, ?_⟩
    obtain ⟨f, hf⟩ := pm_ev_some h
    rw [hT mi N hN] at hf
    exact pm_s_met (r := (v, u')) (hok N (List.mem_of_getElem? hN)) (pm_s_call hT hok d) (fun mi av u v u' h => pm_call_n d mi av u v u' h) hlen hf
end

section
-- ===== PART A: goes FIRST, ahead of the names: the tables' words, and 'selects' of the private methods out of them =====
/-- a private method of a class that the tables say can be made, by its rows of tables_1 -/
def lw_okq (q : MethodName × Nat) : Prop := (q.1.cls ≠ "java/lang/invoke/MethodHandle" ∧ q.1.cls ≠ "java/lang/invoke/VarHandle") ∧ Cond.instantiable q.1.cls q.2 ∈ tables_1 ∧ Cond.privateMethod q.1 ∈ tables_1 ∧ Cond.instanceMethod q.1 ∈ tables_1
theorem lw_p0 : lw_okq (⟨"PlatformDoors", "restart", "()V"⟩, 4) := ⟨⟨by decide +kernel, by decide +kernel⟩, List.mem_of_getElem? (i := 11) (by decide +kernel), List.mem_of_getElem? (i := 200) (by decide +kernel), List.mem_of_getElem? (i := 201) (by decide +kernel)⟩
theorem lw_p1 : lw_okq (⟨"PlatformDoors", "sideOf", "(I)LPlatformDoors$Side;"⟩, 4) := ⟨⟨by decide +kernel, by decide +kernel⟩, List.mem_of_getElem? (i := 11) (by decide +kernel), List.mem_of_getElem? (i := 253) (by decide +kernel), List.mem_of_getElem? (i := 254) (by decide +kernel)⟩
theorem lw_p2 : lw_okq (⟨"PlatformDoors$Train", "isReady", "()Z"⟩, 14) := ⟨⟨by decide +kernel, by decide +kernel⟩, List.mem_of_getElem? (i := 71) (by decide +kernel), List.mem_of_getElem? (i := 297) (by decide +kernel), List.mem_of_getElem? (i := 298) (by decide +kernel)⟩
theorem lw_p3 : lw_okq (⟨"PlatformDoors$Leaf", "move", "()V"⟩, 9) := ⟨⟨by decide +kernel, by decide +kernel⟩, List.mem_of_getElem? (i := 83) (by decide +kernel), List.mem_of_getElem? (i := 331) (by decide +kernel), List.mem_of_getElem? (i := 332) (by decide +kernel)⟩
theorem lw_p4 : lw_okq (⟨"PlatformDoors$Leaf", "feel", "()V"⟩, 9) := ⟨⟨by decide +kernel, by decide +kernel⟩, List.mem_of_getElem? (i := 83) (by decide +kernel), List.mem_of_getElem? (i := 338) (by decide +kernel), List.mem_of_getElem? (i := 339) (by decide +kernel)⟩
theorem lw_p5 : lw_okq (⟨"PlatformDoors", "watchTrain", "()V"⟩, 4) := ⟨⟨by decide +kernel, by decide +kernel⟩, List.mem_of_getElem? (i := 11) (by decide +kernel), List.mem_of_getElem? (i := 399) (by decide +kernel), List.mem_of_getElem? (i := 400) (by decide +kernel)⟩
theorem lw_p6 : lw_okq (⟨"PlatformDoors", "watchPlatform", "()V"⟩, 4) := ⟨⟨by decide +kernel, by decide +kernel⟩, List.mem_of_getElem? (i := 11) (by decide +kernel), List.mem_of_getElem? (i := 407) (by decide +kernel), List.mem_of_getElem? (i := 408) (by decide +kernel)⟩
theorem lw_p7 : lw_okq (⟨"PlatformDoors", "isUnderWay", "(II)Z"⟩, 4) := ⟨⟨by decide +kernel, by decide +kernel⟩, List.mem_of_getElem? (i := 11) (by decide +kernel), List.mem_of_getElem? (i := 449) (by decide +kernel), List.mem_of_getElem? (i := 450) (by decide +kernel)⟩
theorem lw_p8 : lw_okq (⟨"PlatformDoorsModel", "stepOne", "(I)V"⟩, 24) := ⟨⟨by decide +kernel, by decide +kernel⟩, List.mem_of_getElem? (i := 524) (by decide +kernel), List.mem_of_getElem? (i := 616) (by decide +kernel), List.mem_of_getElem? (i := 617) (by decide +kernel)⟩
theorem lw_p9 : lw_okq (⟨"PlatformDoorsModel", "changeState", "(I)V"⟩, 24) := ⟨⟨by decide +kernel, by decide +kernel⟩, List.mem_of_getElem? (i := 524) (by decide +kernel), List.mem_of_getElem? (i := 620) (by decide +kernel), List.mem_of_getElem? (i := 621) (by decide +kernel)⟩
theorem lw_p10 : lw_okq (⟨"PlatformDoorsModel", "mayOpen", "(I)Z"⟩, 24) := ⟨⟨by decide +kernel, by decide +kernel⟩, List.mem_of_getElem? (i := 524) (by decide +kernel), List.mem_of_getElem? (i := 624) (by decide +kernel), List.mem_of_getElem? (i := 625) (by decide +kernel)⟩
theorem lw_p11 : lw_okq (⟨"PlatformDoorsModel", "isFresh", "(I)Z"⟩, 24) := ⟨⟨by decide +kernel, by decide +kernel⟩, List.mem_of_getElem? (i := 524) (by decide +kernel), List.mem_of_getElem? (i := 628) (by decide +kernel), List.mem_of_getElem? (i := 629) (by decide +kernel)⟩
theorem lw_p12 : lw_okq (⟨"PlatformDoorsModel", "age", "(I)I"⟩, 24) := ⟨⟨by decide +kernel, by decide +kernel⟩, List.mem_of_getElem? (i := 524) (by decide +kernel), List.mem_of_getElem? (i := 632) (by decide +kernel), List.mem_of_getElem? (i := 633) (by decide +kernel)⟩
theorem lw_p13 : lw_okq (⟨"PlatformDoorsModel", "isReady", "()Z"⟩, 24) := ⟨⟨by decide +kernel, by decide +kernel⟩, List.mem_of_getElem? (i := 524) (by decide +kernel), List.mem_of_getElem? (i := 636) (by decide +kernel), List.mem_of_getElem? (i := 637) (by decide +kernel)⟩
theorem lw_p14 : lw_okq (⟨"PlatformDoorsModel", "mustClose", "(I)Z"⟩, 24) := ⟨⟨by decide +kernel, by decide +kernel⟩, List.mem_of_getElem? (i := 524) (by decide +kernel), List.mem_of_getElem? (i := 640) (by decide +kernel), List.mem_of_getElem? (i := 641) (by decide +kernel)⟩
theorem lw_p15 : lw_okq (⟨"PlatformDoorsModel", "isStale", "(I)Z"⟩, 24) := ⟨⟨by decide +kernel, by decide +kernel⟩, List.mem_of_getElem? (i := 524) (by decide +kernel), List.mem_of_getElem? (i := 644) (by decide +kernel), List.mem_of_getElem? (i := 645) (by decide +kernel)⟩
def lw_privs_1 : List (MethodName × Nat) := [(⟨"PlatformDoors", "restart", "()V"⟩, 4), (⟨"PlatformDoors", "sideOf", "(I)LPlatformDoors$Side;"⟩, 4), (⟨"PlatformDoors$Train", "isReady", "()Z"⟩, 14), (⟨"PlatformDoors$Leaf", "move", "()V"⟩, 9), (⟨"PlatformDoors$Leaf", "feel", "()V"⟩, 9), (⟨"PlatformDoors", "watchTrain", "()V"⟩, 4), (⟨"PlatformDoors", "watchPlatform", "()V"⟩, 4), (⟨"PlatformDoors", "isUnderWay", "(II)Z"⟩, 4), (⟨"PlatformDoorsModel", "stepOne", "(I)V"⟩, 24), (⟨"PlatformDoorsModel", "changeState", "(I)V"⟩, 24), (⟨"PlatformDoorsModel", "mayOpen", "(I)Z"⟩, 24), (⟨"PlatformDoorsModel", "isFresh", "(I)Z"⟩, 24), (⟨"PlatformDoorsModel", "age", "(I)I"⟩, 24), (⟨"PlatformDoorsModel", "isReady", "()Z"⟩, 24), (⟨"PlatformDoorsModel", "mustClose", "(I)Z"⟩, 24), (⟨"PlatformDoorsModel", "isStale", "(I)Z"⟩, 24)]
theorem lw_r1 : ∀ q ∈ lw_privs_1, lw_okq q := List.forall_mem_cons.mpr ⟨lw_p0, List.forall_mem_cons.mpr ⟨lw_p1, List.forall_mem_cons.mpr ⟨lw_p2, List.forall_mem_cons.mpr ⟨lw_p3, List.forall_mem_cons.mpr ⟨lw_p4, List.forall_mem_cons.mpr ⟨lw_p5, List.forall_mem_cons.mpr ⟨lw_p6, List.forall_mem_cons.mpr ⟨lw_p7, List.forall_mem_cons.mpr ⟨lw_p8, List.forall_mem_cons.mpr ⟨lw_p9, List.forall_mem_cons.mpr ⟨lw_p10, List.forall_mem_cons.mpr ⟨lw_p11, List.forall_mem_cons.mpr ⟨lw_p12, List.forall_mem_cons.mpr ⟨lw_p13, List.forall_mem_cons.mpr ⟨lw_p14, List.forall_mem_cons.mpr ⟨lw_p15, fun _ h => absurd h List.not_mem_nil⟩⟩⟩⟩⟩⟩⟩⟩⟩⟩⟩⟩⟩⟩⟩⟩
theorem lw_p16 : lw_okq (⟨"PlatformDoorsModel", "moveLeaf", "(II)V"⟩, 24) := ⟨⟨by decide +kernel, by decide +kernel⟩, List.mem_of_getElem? (i := 524) (by decide +kernel), List.mem_of_getElem? (i := 648) (by decide +kernel), List.mem_of_getElem? (i := 649) (by decide +kernel)⟩
theorem lw_p17 : lw_okq (⟨"PlatformDoorsModel", "isLocked", "(I)Z"⟩, 24) := ⟨⟨by decide +kernel, by decide +kernel⟩, List.mem_of_getElem? (i := 524) (by decide +kernel), List.mem_of_getElem? (i := 652) (by decide +kernel), List.mem_of_getElem? (i := 653) (by decide +kernel)⟩
theorem lw_p18 : lw_okq (⟨"PlatformDoorsModel", "send", "(I)V"⟩, 24) := ⟨⟨by decide +kernel, by decide +kernel⟩, List.mem_of_getElem? (i := 524) (by decide +kernel), List.mem_of_getElem? (i := 656) (by decide +kernel), List.mem_of_getElem? (i := 657) (by decide +kernel)⟩
theorem lw_p19 : lw_okq (⟨"PlatformDoorsModel", "isolatedBits", "(I)I"⟩, 24) := ⟨⟨by decide +kernel, by decide +kernel⟩, List.mem_of_getElem? (i := 524) (by decide +kernel), List.mem_of_getElem? (i := 660) (by decide +kernel), List.mem_of_getElem? (i := 661) (by decide +kernel)⟩
theorem lw_p20 : lw_okq (⟨"PlatformDoorsModel", "isGood", "(I)Z"⟩, 24) := ⟨⟨by decide +kernel, by decide +kernel⟩, List.mem_of_getElem? (i := 524) (by decide +kernel), List.mem_of_getElem? (i := 664) (by decide +kernel), List.mem_of_getElem? (i := 665) (by decide +kernel)⟩
theorem lw_p21 : lw_okq (⟨"PlatformDoorsModel", "toldLeaves", "(I)I"⟩, 24) := ⟨⟨by decide +kernel, by decide +kernel⟩, List.mem_of_getElem? (i := 524) (by decide +kernel), List.mem_of_getElem? (i := 668) (by decide +kernel), List.mem_of_getElem? (i := 669) (by decide +kernel)⟩
theorem lw_p22 : lw_okq (⟨"PlatformDoorsModel", "isTold", "(I)Z"⟩, 24) := ⟨⟨by decide +kernel, by decide +kernel⟩, List.mem_of_getElem? (i := 524) (by decide +kernel), List.mem_of_getElem? (i := 672) (by decide +kernel), List.mem_of_getElem? (i := 673) (by decide +kernel)⟩
theorem lw_p23 : lw_okq (⟨"PlatformDoorsModel", "says", "(IZ)Z"⟩, 24) := ⟨⟨by decide +kernel, by decide +kernel⟩, List.mem_of_getElem? (i := 524) (by decide +kernel), List.mem_of_getElem? (i := 676) (by decide +kernel), List.mem_of_getElem? (i := 677) (by decide +kernel)⟩
theorem lw_p24 : lw_okq (⟨"PlatformDoorsModel", "noFrame", "(II)Z"⟩, 24) := ⟨⟨by decide +kernel, by decide +kernel⟩, List.mem_of_getElem? (i := 524) (by decide +kernel), List.mem_of_getElem? (i := 717) (by decide +kernel), List.mem_of_getElem? (i := 718) (by decide +kernel)⟩
theorem lw_p25 : lw_okq (⟨"PlatformDoorsModel", "takeOut", "(II)V"⟩, 24) := ⟨⟨by decide +kernel, by decide +kernel⟩, List.mem_of_getElem? (i := 524) (by decide +kernel), List.mem_of_getElem? (i := 721) (by decide +kernel), List.mem_of_getElem? (i := 722) (by decide +kernel)⟩
def lw_privs_2 : List (MethodName × Nat) := [(⟨"PlatformDoorsModel", "moveLeaf", "(II)V"⟩, 24), (⟨"PlatformDoorsModel", "isLocked", "(I)Z"⟩, 24), (⟨"PlatformDoorsModel", "send", "(I)V"⟩, 24), (⟨"PlatformDoorsModel", "isolatedBits", "(I)I"⟩, 24), (⟨"PlatformDoorsModel", "isGood", "(I)Z"⟩, 24), (⟨"PlatformDoorsModel", "toldLeaves", "(I)I"⟩, 24), (⟨"PlatformDoorsModel", "isTold", "(I)Z"⟩, 24), (⟨"PlatformDoorsModel", "says", "(IZ)Z"⟩, 24), (⟨"PlatformDoorsModel", "noFrame", "(II)Z"⟩, 24), (⟨"PlatformDoorsModel", "takeOut", "(II)V"⟩, 24)]
theorem lw_r2 : ∀ q ∈ lw_privs_2, lw_okq q := List.forall_mem_cons.mpr ⟨lw_p16, List.forall_mem_cons.mpr ⟨lw_p17, List.forall_mem_cons.mpr ⟨lw_p18, List.forall_mem_cons.mpr ⟨lw_p19, List.forall_mem_cons.mpr ⟨lw_p20, List.forall_mem_cons.mpr ⟨lw_p21, List.forall_mem_cons.mpr ⟨lw_p22, List.forall_mem_cons.mpr ⟨lw_p23, List.forall_mem_cons.mpr ⟨lw_p24, List.forall_mem_cons.mpr ⟨lw_p25, fun _ h => absurd h List.not_mem_nil⟩⟩⟩⟩⟩⟩⟩⟩⟩⟩
def lw_privs : List (MethodName × Nat) := lw_privs_1 ++ (lw_privs_2)
def lw_tbl : List Cond := k2_sels lw_privs ++ tables_1
theorem lw_privs_ok : ∀ q ∈ lw_privs, lw_okq q := by
  show ∀ q ∈ lw_privs_1 ++ (lw_privs_2), lw_okq q
  exact List.forall_mem_append.mpr ⟨lw_r1, lw_r2⟩
end
section
/-! Private methods of the type above Train and Platform, on receivers of these two: the words by which a call selects them follow from others. -/
theorem pm_sel {C : String} {x0 y0 y : MethodName} {s : State} {args : Array Value} (h0 : (Cond.selects C x0 y0).before args s = true) (hc : y0.cls = y.cls) (hy : y.cls ≠ "java/lang/invoke/MethodHandle" ∧ y.cls ≠ "java/lang/invoke/VarHandle") (hp : (Cond.privateMethod y).before args s = true) (hi : (Cond.instanceMethod y).before args s = true) : (Cond.selects C y y).before args s = true := by
  obtain ⟨mk, me, hn, hm, -, -⟩ := Cond.instanceMethod_spec hi
  obtain ⟨cc, rr, mm, e1, -, e3, -, kk, e5, e6⟩ := Cond.selects_spec h0
  have hf := State.methodFound?_of_named hn hy
  have hs : selectMethod {} s.vm cc mk = .method mk := selectMethod_private hm (Cond.privateMethod_at hp mk me hn hm)
  have hmc : mk.cls = mm.cls := by
    have h1 := findClass_of_methodNamed hn
    have h2 := findClass_of_methodNamed e3
    rw [hc, h1] at h2
    exact Option.some.inj h2
  simp only [Cond.before, Cond.holds, Cond.value, e1, hf, hn, hs, hmc, e5]
  simp
  exact e6
def pm_pv : List MethodName := [⟨"PlatformDoors$Side", "changeState", "()V"⟩, ⟨"PlatformDoors$Side", "send", "()V"⟩, ⟨"PlatformDoors$Side", "isolatedBits", "()I"⟩]
def pm_w2 : List Cond := pm_pv.map (fun y => Cond.selects "PlatformDoors$Train" y y) ++ pm_pv.map (fun y => Cond.selects "PlatformDoors$Platform" y y)
def pm_tb : List Cond := pm_w2 ++ lw_tbl
def pm_sadv : MethodName := ⟨"PlatformDoors$Side", "advance", "()V"⟩
theorem pm_pv_ok : ∀ y ∈ pm_pv, y.cls = "PlatformDoors$Side" ∧ Cond.privateMethod y ∈ lw_tbl ∧ Cond.instanceMethod y ∈ lw_tbl := by decide +kernel
theorem pm_sadv_ok : Cond.selects "PlatformDoors$Train" pm_sadv pm_sadv ∈ lw_tbl ∧ Cond.selects "PlatformDoors$Platform" pm_sadv pm_sadv ∈ lw_tbl := by decide +kernel
theorem pm_tb_of {s : State} {args : Array Value} (h : ∀ w ∈ lw_tbl, w.before args s = true) : ∀ w ∈ pm_tb, w.before args s = true := by
  intro w hw
  rcases List.mem_append.mp hw with hw | hw
  · rcases List.mem_append.mp hw with hw | hw
    · obtain ⟨y, hy, rfl⟩ := List.mem_map.mp hw
      obtain ⟨h1, h2, h3⟩ := pm_pv_ok y hy
      exact pm_sel (h _ pm_sadv_ok.1) h1.symm (by rw [h1]; exact ⟨by decide, by decide⟩) (h _ h2) (h _ h3)
    · obtain ⟨y, hy, rfl⟩ := List.mem_map.mp hw
      obtain ⟨h1, h2, h3⟩ := pm_pv_ok y hy
      exact pm_sel (h _ pm_sadv_ok.2) h1.symm (by rw [h1]; exact ⟨by decide, by decide⟩) (h _ h2) (h _ h3)
  · exact h w hw
end
section
/-! A small machine of my own over PLACES (see NOTES.md, section H): ints, booleans and references in a memory of places; one step in the style of continuations, so that a branch on a number that isn't known stands outside. Nothing here speaks of the model; part 12 shows that what this machine does, the model does. -/
abbrev pm_V : Type := Int32 ⊕ (Bool ⊕ (Option Nat ⊕ Unit))
abbrev pm_S : Type := Nat × (Nat → Nat → Int32) × (Nat → Nat → Bool) × (Nat → Nat → Option Nat)
abbrev pm_Rs : Type := Option pm_V × pm_S
abbrev pm_Lv : Type := List (Nat × pm_V)
abbrev pm_Row : Type := Nat × Jvm.ClassFile.Instr × Nat × List Nat
abbrev pm_Cd : Type := List (List pm_Row)
abbrev pm_Kd : Type := Nat ⊕ (Nat × Nat)
abbrev pm_Sc : Type := Nat × (Nat → Int32)
def pm_up {α : Type} (x : Nat → Nat → α) (k j : Nat) (v : α) : Nat → Nat → α := fun a b => bif Nat.beq a k && Nat.beq b j then v else x a b
def pm_fz {α : Type} (x : Nat → Nat → α) (k : Nat) (v : α) : Nat → Nat → α := fun a b => bif Nat.beq a k then v else x a b
def pm_lget : pm_Lv → Nat → Option pm_V
  | [], _ => none
  | (k, v) :: t, i => bif Nat.beq k i then some v else pm_lget t i
def pm_ldel : pm_Lv → Nat → pm_Lv
  | [], _ => []
  | (k, v) :: t, i => bif Nat.beq k i then pm_ldel t i else (k, v) :: pm_ldel t i
def pm_lset (lv : pm_Lv) (i : Nat) (v : pm_V) : pm_Lv := (i, v) :: pm_ldel lv i
def pm_look : List pm_Row → Nat → Option (Jvm.ClassFile.Instr × Nat × List Nat)
  | [], _ => none
  | (k, a) :: t, n => bif Nat.beq k n then some a else pm_look t n
def pm_find (cd : pm_Cd) (pc : Nat) : Option (Jvm.ClassFile.Instr × Nat × List Nat) := pm_look (cd.getD (pc / 16) []) pc
/-- what each place is: an object's kind by number, or a kind of array (0 int, 1 boolean, 2 Frame, 3 Leaf) and its length; in the order of making -/
def pm_kds : List (List pm_Kd) := [
  [.inl 0, .inl 3, .inr (2, 12), .inl 1, .inl 1, .inl 1, .inl 1, .inl 1],
  [.inl 1, .inl 1, .inl 1, .inl 1, .inl 1, .inl 1, .inl 1, .inl 3],
  [.inr (2, 12), .inl 1, .inl 1, .inl 1, .inl 1, .inl 1, .inl 1, .inl 1],
  [.inl 1, .inl 1, .inl 1, .inl 1, .inl 1, .inl 5, .inr (3, 8), .inl 1],
  [.inl 2, .inr (0, 2), .inl 2, .inr (0, 2), .inl 2, .inr (0, 2), .inl 2, .inr (0, 2)],
  [.inl 2, .inr (0, 2), .inl 2, .inr (0, 2), .inl 2, .inr (0, 2), .inl 2, .inr (0, 2)],
  [.inl 4, .inr (3, 8), .inl 1, .inl 2, .inr (0, 2), .inl 2, .inr (0, 2), .inl 2],
  [.inr (0, 2), .inl 2, .inr (0, 2), .inl 2, .inr (0, 2), .inl 2, .inr (0, 2), .inl 2],
  [.inr (0, 2), .inl 2, .inr (0, 2), .inl 6, .inr (0, 2), .inr (0, 2), .inr (0, 2), .inr (0, 2)],
  [.inr (1, 2), .inr (0, 12), .inr (0, 2), .inr (0, 144), .inr (0, 16), .inr (1, 16), .inr (1, 16), .inr (1, 16)],
  [.inr (1, 16), .inr (0, 16), .inr (0, 16), .inr (0, 16), .inr (0, 32)]]
def pm_kd (k : Nat) : Option pm_Kd := (pm_kds.getD (k / 8) [])[k % 8]?
/-- is i an index below len? -/
def pm_ib (i : Int32) (len : Nat) : Bool := !(decide (i < 0)) && Nat.blt i.toNatClampNeg len
/-- a switch from the case v on -/
def pm_sw {α : Type} (x : Int32) (kg : Nat → α) (dflt : Nat) : List Nat → Nat → α
  | [], _ => kg dflt
  | t :: ts, v => if x = Int32.ofNat v then kg t else pm_sw x kg dflt ts (v + 1)
def pm_pair : List Nat → Nat → Option Nat
  | a :: b :: t, i => bif Nat.beq a i then some b else pm_pair t i
  | _, _ => none
def pm_con : List Nat → Int32
  | [m, 0] => Int32.ofNat m
  | [m, _] => - Int32.ofNat m
  | _ => 0
section PMD
variable {α : Type} (c : Nat → List pm_V → pm_S → Option pm_Rs) (sc : pm_Sc) (rk : Nat)
def pm_br (cd : Jvm.ClassFile.Cond) (x : Int32) (a b : α) : α := match cd with
  | .eq => if x = 0 then a else b
  | .ne => if x = 0 then b else a
  | .lt => if x < 0 then a else b
  | .ge => if 0 ≤ x then a else b
  | .gt => if 0 < x then a else b
  | .le => if x ≤ 0 then a else b
def pm_br2 (cd : Jvm.ClassFile.Cond) (x y : Int32) (a b : α) : α := match cd with
  | .eq => if x = y then a else b
  | .ne => if x = y then b else a
  | .lt => if x < y then a else b
  | .ge => if y ≤ x then a else b
  | .gt => if y < x then a else b
  | .le => if x ≤ y then a else b
def pm_brb (cd : Jvm.ClassFile.Cond) (x : Bool) (a b kn : α) : α := match cd with
  | .eq => if x = true then b else a
  | .ne => if x = true then a else b
  | _ => kn
def pm_brb2 (cd : Jvm.ClassFile.Cond) (x y : Bool) (a b kn : α) : α := match cd with
  | .eq => if x = y then a else b
  | .ne => if x = y then b else a
  | _ => kn
/-- the kind of the object at a place that has been made -/
def pm_cls (n k : Nat) : Option Nat := bif Nat.blt k n then (match pm_kd k with | some (.inl ci) => some ci | _ => none) else none
/-- the kind of the array at a place that has been made -/
def pm_arr (n k : Nat) : Option (Nat × Nat) := bif Nat.blt k n then (match pm_kd k with | some (.inr a) => some a | _ => none) else none
def pm_call1 (kg : Option pm_V → pm_S → α) (kn : α) (r : Option pm_Rs) : α := match r with
  | some (v, u) => kg v u
  | none => kn
def pm_get (ty k j : Nat) (u : pm_S) : pm_V := match ty with
  | 0 => .inl (u.2.1 k j)
  | 1 => .inr (.inl (u.2.2.1 k j))
  | _ => .inr (.inr (.inl (u.2.2.2 k j)))
/-- a value into slot j of place k -/
def pm_put (ty k j : Nat) (v : pm_V) (u : pm_S) (kg : pm_S → α) (kn : α) : α := match ty, v with
  | 0, .inl x => kg (u.1, pm_up u.2.1 k j x, u.2.2.1, u.2.2.2)
  | 1, .inr (.inl b) => kg (u.1, u.2.1, pm_up u.2.2.1 k j b, u.2.2.2)
  | 1, .inl x => if x = 0 then kg (u.1, u.2.1, pm_up u.2.2.1 k j false, u.2.2.2) else if x = 1 then kg (u.1, u.2.1, pm_up u.2.2.1 k j true, u.2.2.2) else kn
  | 2, .inr (.inr (.inl (some q))) => kg (u.1, u.2.1, u.2.2.1, pm_up u.2.2.2 k j (some q))
  | _, _ => kn
def pm_iret (st : List pm_V) (u : pm_S) (kr : pm_Rs → α) (kn : α) : α := match rk, st with
  | 1, [.inl x] => kr (some (.inl x), u)
  | 2, [.inr (.inl b)] => kr (some (.inr (.inl b)), u)
  | 2, [.inl x] => if x = 0 then kr (some (.inr (.inl false)), u) else if x = 1 then kr (some (.inr (.inl true)), u) else kn
  | _, _ => kn
def pm_ld (v : Option pm_V) (kg : pm_V → α) (kn : α) : α := match v with
  | some (.inl x) => kg (.inl x)
  | some (.inr (.inl b)) => kg (.inr (.inl b))
  | _ => kn
def pm_la (v : Option pm_V) (kg : pm_V → α) (kn : α) : α := match v with
  | some (.inr (.inr q)) => kg (.inr (.inr q))
  | _ => kn
def pm_si (st : List pm_V) (kg : pm_V → List pm_V → α) (kn : α) : α := match st with
  | .inl x :: st => kg (.inl x) st
  | .inr (.inl b) :: st => kg (.inr (.inl b)) st
  | _ => kn
def pm_sa (st : List pm_V) (kg : pm_V → List pm_V → α) (kn : α) : α := match st with
  | .inr (.inr q) :: st => kg (.inr (.inr q)) st
  | _ => kn
def pm_op2 (st : List pm_V) (kg : Int32 → Int32 → List pm_V → α) (kn : α) : α := match st with
  | .inl y :: .inl x :: st => kg x y st
  | _ => kn
def pm_obj (n : Nat) (st : List pm_V) (kg : Nat → Nat → List pm_V → α) (kn : α) : α := match st with
  | .inr (.inr (.inl (some k))) :: st => (match pm_cls n k with | some ci => kg k ci st | none => kn)
  | _ => kn
/-- reads and writes of arrays: kind t0 -/
def pm_ald (t0 : Nat) (st : List pm_V) (u : pm_S) (kg : pm_V → List pm_V → α) (kn : α) : α := match st with
  | .inl i :: .inr (.inr (.inl (some k))) :: st => (match pm_arr u.1 k with
    | some (t, len) => bif (Nat.beq t t0 || (Nat.beq t0 2 && Nat.beq t 3)) && pm_ib i len then kg (pm_get t0 k i.toNatClampNeg u) st else kn
    | none => kn)
  | .inl i :: .inr (.inr (.inr _)) :: st => bif Nat.beq t0 0 && pm_ib i sc.1 then kg (.inl (sc.2 i.toNatClampNeg)) st else kn
  | _ => kn
def pm_ast (t0 : Nat) (st : List pm_V) (u : pm_S) (kg : List pm_V → pm_S → α) (kn : α) : α := match st with
  | v :: .inl i :: .inr (.inr (.inl (some k))) :: st => (match pm_arr u.1 k with
    | some (t, len) => bif Nat.beq t t0 && pm_ib i len then pm_put t0 k i.toNatClampNeg v u (fun u => kg st u) kn else kn
    | none => kn)
  | _ => kn
def pm_asta (st : List pm_V) (u : pm_S) (kg : List pm_V → pm_S → α) (kn : α) : α := match st with
  | .inr (.inr (.inl (some q))) :: .inl i :: .inr (.inr (.inl (some k))) :: st => (match pm_arr u.1 k, pm_cls u.1 q with
    | some (t, len), some ci => bif ((Nat.beq t 2 && Nat.beq ci 1) || (Nat.beq t 3 && Nat.beq ci 2)) && pm_ib i len then kg st (u.1, u.2.1, u.2.2.1, pm_up u.2.2.2 k i.toNatClampNeg (some q)) else kn
    | _, _ => kn)
  | _ => kn
/-- a new place n, all zero -/
def pm_made (u : pm_S) : pm_S := (u.1 + 1, pm_fz u.2.1 u.1 0, pm_fz u.2.2.1 u.1 false, pm_fz u.2.2.2 u.1 none)
def pm_new (d : pm_Kd) (st : List pm_V) (u : pm_S) (kg : List pm_V → pm_S → α) (kn : α) : α := match pm_kd u.1, d with
  | some (.inl a), .inl b => bif Nat.beq a b then kg (.inr (.inr (.inl (some u.1))) :: st) (pm_made u) else kn
  | some (.inr (a, x)), .inr (b, y) => bif Nat.beq a b && Nat.beq x y then kg (.inr (.inr (.inl (some u.1))) :: st) (pm_made u) else kn
  | _, _ => kn
/-- below a call's arguments the stack is short -/
def pm_gd (st : List pm_V) (a kn : α) : α := bif Nat.ble st.length 8 then a else kn
/-- the arguments off the stack: the last is on top -/
def pm_pop : Nat → List pm_V → List pm_V → Option (List pm_V × List pm_V)
  | 0, as, st => some (as, st)
  | n + 1, as, v :: st => pm_pop n (v :: as) st
  | _ + 1, _, [] => none
def pm_do (ins : Jvm.ClassFile.Instr) (nx : Nat) (ax : List Nat) (lv : pm_Lv) (st : List pm_V) (u : pm_S) (kg : Nat → pm_Lv → List pm_V → pm_S → α) (kr : pm_Rs → α) (kn : α) : α := match ins with
  | .iconst n => kg nx lv (.inl (Int32.ofInt n) :: st) u
  | .bipush n => kg nx lv (.inl (Int32.ofInt n) :: st) u
  | .sipush n => kg nx lv (.inl (Int32.ofInt n) :: st) u
  | .ldc _ => kg nx lv (.inl (pm_con ax) :: st) u
  | .iload_n k => pm_ld (pm_lget lv k.val) (fun v => kg nx lv (v :: st) u) kn
  | .iload i => pm_ld (pm_lget lv i) (fun v => kg nx lv (v :: st) u) kn
  | .aload_n k => pm_la (pm_lget lv k.val) (fun v => kg nx lv (v :: st) u) kn
  | .aload i => pm_la (pm_lget lv i) (fun v => kg nx lv (v :: st) u) kn
  | .istore_n k => pm_si st (fun v st => kg nx (pm_lset lv k.val v) st u) kn
  | .istore i => pm_si st (fun v st => kg nx (pm_lset lv i v) st u) kn
  | .astore_n k => pm_sa st (fun v st => kg nx (pm_lset lv k.val v) st u) kn
  | .astore i => pm_sa st (fun v st => kg nx (pm_lset lv i v) st u) kn
  | .iinc i n => (match pm_lget lv i with | some (.inl x) => kg nx (pm_lset lv i (.inl (x + Int32.ofInt n))) st u | _ => kn)
  | .iadd => pm_op2 st (fun x y st => kg nx lv (.inl (x + y) :: st) u) kn
  | .isub => pm_op2 st (fun x y st => kg nx lv (.inl (x - y) :: st) u) kn
  | .imul => pm_op2 st (fun x y st => kg nx lv (.inl (x * y) :: st) u) kn
  | .iand => pm_op2 st (fun x y st => kg nx lv (.inl (x &&& y) :: st) u) kn
  | .ior => pm_op2 st (fun x y st => kg nx lv (.inl (x ||| y) :: st) u) kn
  | .ishl => pm_op2 st (fun x y st => kg nx lv (.inl (x <<< (y &&& 31)) :: st) u) kn
  | .ishr => pm_op2 st (fun x y st => kg nx lv (.inl (x >>> (y &&& 31)) :: st) u) kn
  | .idiv => pm_op2 st (fun x y st => if y = 0 then kn else kg nx lv (.inl (x / y) :: st) u) kn
  | .irem => pm_op2 st (fun x y st => if y = 0 then kn else kg nx lv (.inl (x - x / y * y) :: st) u) kn
  | .dup => (match st with | v :: st => kg nx lv (v :: v :: st) u | _ => kn)
  | .dup2 => (match st with | v :: w :: st => kg nx lv (v :: w :: v :: w :: st) u | _ => kn)
  | .ifCond cd _ => (match st with | .inl x :: st => pm_br cd x (kg (ax.headD 0) lv st u) (kg nx lv st u) | .inr (.inl b) :: st => pm_brb cd b (kg (ax.headD 0) lv st u) (kg nx lv st u) kn | _ => kn)
  | .if_icmp cd _ => (match st with | .inl y :: .inl x :: st => pm_br2 cd x y (kg (ax.headD 0) lv st u) (kg nx lv st u) | .inr (.inl y) :: .inr (.inl x) :: st => pm_brb2 cd x y (kg (ax.headD 0) lv st u) (kg nx lv st u) kn | _ => kn)
  | .goto _ => kg (ax.headD 0) lv st u
  | .getfield _ => (match ax with | j :: ty :: cis => pm_obj u.1 st (fun k ci st => bif cis.any (Nat.beq ci) then kg nx lv (pm_get ty k j u :: st) u else kn) kn | _ => kn)
  | .putfield _ => (match ax, st with | j :: ty :: _ :: cis, v :: st => pm_obj u.1 st (fun k ci st => bif cis.any (Nat.beq ci) then pm_put ty k j v u (fun u => kg nx lv st u) kn else kn) kn | _, _ => kn)
  | .iaload => pm_ald sc 0 st u (fun v st => kg nx lv (v :: st) u) kn
  | .baload => pm_ald sc 1 st u (fun v st => kg nx lv (v :: st) u) kn
  | .aaload => pm_ald sc 2 st u (fun v st => kg nx lv (v :: st) u) kn
  | .iastore => pm_ast 0 st u (fun st u => kg nx lv st u) kn
  | .bastore => pm_ast 1 st u (fun st u => kg nx lv st u) kn
  | .aastore => pm_asta st u (fun st u => kg nx lv st u) kn
  | .arraylength => (match st with | .inr (.inr (.inr _)) :: st => kg nx lv (.inl (Int32.ofNat sc.1) :: st) u | _ => kn)
  | .new _ => (match ax with | ci :: _ => pm_new (.inl ci) st u (fun st u => kg nx lv st u) kn | _ => kn)
  | .newarray a => (match ax, st with | [t], .inl i :: st => bif !(decide (i < 0)) then pm_new (.inr (t, i.toNatClampNeg)) st u (fun st u => kg nx lv st u) kn else kn | _, _ => kn)
  | .anewarray _ => (match ax, st with | [t], .inl i :: st => bif !(decide (i < 0)) then pm_new (.inr (t, i.toNatClampNeg)) st u (fun st u => kg nx lv st u) kn else kn | _, _ => kn)
  | .invokevirtual _ => (match ax with
    | na :: _ :: ps => (match pm_pop na [] st with
      | some (as, st) => pm_obj u.1 st (fun k ci st => match pm_pair ps ci with
        | some mi => pm_gd st (pm_call1 (fun v u => kg nx lv (v.toList ++ st) u) kn (c mi (.inr (.inr (.inl (some k))) :: as) u)) kn
        | none => kn) kn
      | none => kn)
    | _ => kn)
  | .invokespecial _ => (match ax with
    | [] => (match st with | .inr (.inr (.inl (some _))) :: st => pm_gd st (kg nx lv st u) kn | _ => kn)
    | na :: mi :: _ => (match pm_pop na [] st with
      | some (as, .inr (.inr (.inl (some k))) :: st) => pm_gd st (pm_call1 (fun v u => kg nx lv (v.toList ++ st) u) kn (c mi (.inr (.inr (.inl (some k))) :: as) u)) kn
      | _ => kn)
    | _ => kn)
  | .invokestatic _ => (match ax with
    | [0] => pm_op2 st (fun x y st => pm_gd st (kg nx lv (.inl (if x < y then y else x) :: st) u) kn) kn
    | [1] => pm_op2 st (fun x y st => pm_gd st (kg nx lv (.inl (if y < x then y else x) :: st) u) kn) kn
    | na :: mi :: _ => (match pm_pop na [] st with
      | some (as, st) => pm_gd st (pm_call1 (fun v u => kg nx lv (v.toList ++ st) u) kn (c mi as u)) kn
      | none => kn)
    | _ => kn)
  | .tableswitch _ _ _ _ => (match ax, st with | d :: ts, .inl x :: st => pm_sw x (fun pc => kg pc lv st u) d ts 0 | _, _ => kn)
  | .ireturn => pm_iret rk st u kr kn
  | .areturn => (match rk, st with | 3, [.inr (.inr (.inl q))] => kr (some (.inr (.inr (.inl q))), u) | _, _ => kn)
  | .return_ => (match rk, st with | 0, [] => kr (none, u) | _, _ => kn)
  | _ => kn
def pm_stp (cd : pm_Cd) (pc : Nat) (lv : pm_Lv) (st : List pm_V) (u : pm_S) (kg : Nat → pm_Lv → List pm_V → pm_S → α) (kr : pm_Rs → α) (kn : α) : α := match pm_find cd pc with
  | some (ins, nx, ax) => pm_do c sc rk ins nx ax lv st u kg kr kn
  | none => kn
/-- up to k steps, stopping at pcs that 'cut' names -/
def pm_iter (cd : pm_Cd) (cut : List Nat) : Nat → Nat → pm_Lv → List pm_V → pm_S → (Nat → pm_Lv → List pm_V → pm_S → α) → (pm_Rs → α) → α → α
  | 0, pc, lv, st, u, kg, _, _ => kg pc lv st u
  | k + 1, pc, lv, st, u, kg, kr, kn => pm_stp c sc rk cd pc lv st u (fun pc lv st u => bif cut.any (Nat.beq pc) then kg pc lv st u else pm_iter cd cut k pc lv st u kg kr kn) kr kn
end PMD
abbrev pm_St : Type := Nat × pm_Lv × List pm_V × pm_S
end
section
section PMR
variable {α β : Type} {R : α → β → Prop}
theorem pm_ite_rel {p : Prop} {hd : Decidable p} {a b : α} {a' b' : β} (ha : R a a') (hb : R b b') : R (@ite α p hd a b) (@ite β p hd a' b') := by
  by_cases h : p
  · rw [if_pos h, if_pos h]; exact ha
  · rw [if_neg h, if_neg h]; exact hb
theorem pm_bif_rel {x : Bool} {a b : α} {a' b' : β} (ha : R a a') (hb : R b b') : R (bif x then a else b) (bif x then a' else b') := by
  cases x
  · exact hb
  · exact ha
theorem pm_br_rel {cd : Jvm.ClassFile.Cond} {x : Int32} {a b : α} {a' b' : β} (ha : R a a') (hb : R b b') : R (pm_br cd x a b) (pm_br cd x a' b') := by
  cases cd <;> first | exact pm_ite_rel ha hb | exact pm_ite_rel hb ha
theorem pm_br2_rel {cd : Jvm.ClassFile.Cond} {x y : Int32} {a b : α} {a' b' : β} (ha : R a a') (hb : R b b') : R (pm_br2 cd x y a b) (pm_br2 cd x y a' b') := by
  cases cd <;> first | exact pm_ite_rel ha hb | exact pm_ite_rel hb ha
theorem pm_brb_rel {cd : Jvm.ClassFile.Cond} {x : Bool} {a b d : α} {a' b' d' : β} (ha : R a a') (hb : R b b') (hn : R d d') : R (pm_brb cd x a b d) (pm_brb cd x a' b' d') := by
  cases cd <;> first | exact pm_ite_rel ha hb | exact pm_ite_rel hb ha | exact hn
theorem pm_brb2_rel {cd : Jvm.ClassFile.Cond} {x y : Bool} {a b d : α} {a' b' d' : β} (ha : R a a') (hb : R b b') (hn : R d d') : R (pm_brb2 cd x y a b d) (pm_brb2 cd x y a' b' d') := by
  cases cd <;> first | exact pm_ite_rel ha hb | exact pm_ite_rel hb ha | exact hn
theorem pm_sw_rel {x : Int32} {kg : Nat → α} {kg' : Nat → β} (h : ∀ pc, R (kg pc) (kg' pc)) (d : Nat) : ∀ (ts : List Nat) (v : Nat), R (pm_sw x kg d ts v) (pm_sw x kg' d ts v)
  | [], _ => h d
  | t :: ts, v => pm_ite_rel (h t) (pm_sw_rel h d ts (v + 1))
theorem pm_call1_rel {kg : Option pm_V → pm_S → α} {kg' : Option pm_V → pm_S → β} {kn : α} {kn' : β} {r : Option pm_Rs} (h : ∀ v u, R (kg v u) (kg' v u)) (hn : R kn kn') : R (pm_call1 kg kn r) (pm_call1 kg' kn' r) := by
  rcases r with _ | ⟨v, u⟩
  · exact hn
  · exact h v u
theorem pm_put_rel {ty k j : Nat} {v : pm_V} {u : pm_S} {kg : pm_S → α} {kg' : pm_S → β} {kn : α} {kn' : β} (h : ∀ u, R (kg u) (kg' u)) (hn : R kn kn') : R (pm_put ty k j v u kg kn) (pm_put ty k j v u kg' kn') := by
  rcases ty with _ | _ | _ | ty <;> rcases v with x | b | (_ | q) | _ <;> first | exact hn | exact h _ | exact pm_ite_rel (h _) (pm_ite_rel (h _) hn)
theorem pm_iret_rel {rk : Nat} {st : List pm_V} {u : pm_S} {kr : pm_Rs → α} {kr' : pm_Rs → β} {kn : α} {kn' : β} (h : ∀ r, R (kr r) (kr' r)) (hn : R kn kn') : R (pm_iret rk st u kr kn) (pm_iret rk st u kr' kn') := by
  rcases rk with _ | _ | _ | rk <;> rcases st with _ | ⟨x | b | (_ | q) | _, _ | ⟨v2, st⟩⟩ <;> first | exact hn | exact h _ | exact pm_ite_rel (h _) (pm_ite_rel (h _) hn)
theorem pm_ld_rel {v : Option pm_V} {kg : pm_V → α} {kg' : pm_V → β} {kn : α} {kn' : β} (h : ∀ v, R (kg v) (kg' v)) (hn : R kn kn') : R (pm_ld v kg kn) (pm_ld v kg' kn') := by
  rcases v with _ | x | b | q <;> first | exact hn | exact h _
theorem pm_la_rel {v : Option pm_V} {kg : pm_V → α} {kg' : pm_V → β} {kn : α} {kn' : β} (h : ∀ v, R (kg v) (kg' v)) (hn : R kn kn') : R (pm_la v kg kn) (pm_la v kg' kn') := by
  rcases v with _ | x | b | q <;> first | exact hn | exact h _
theorem pm_si_rel {st : List pm_V} {kg : pm_V → List pm_V → α} {kg' : pm_V → List pm_V → β} {kn : α} {kn' : β} (h : ∀ v st, R (kg v st) (kg' v st)) (hn : R kn kn') : R (pm_si st kg kn) (pm_si st kg' kn') := by
  rcases st with _ | ⟨x | b | q, st⟩ <;> first | exact hn | exact h _ _
theorem pm_sa_rel {st : List pm_V} {kg : pm_V → List pm_V → α} {kg' : pm_V → List pm_V → β} {kn : α} {kn' : β} (h : ∀ v st, R (kg v st) (kg' v st)) (hn : R kn kn') : R (pm_sa st kg kn) (pm_sa st kg' kn') := by
  rcases st with _ | ⟨x | b | q, st⟩ <;> first | exact hn | exact h _ _
theorem pm_op2_rel {st : List pm_V} {kg : Int32 → Int32 → List pm_V → α} {kg' : Int32 → Int32 → List pm_V → β} {kn : α} {kn' : β} (h : ∀ x y st, R (kg x y st) (kg' x y st)) (hn : R kn kn') : R (pm_op2 st kg kn) (pm_op2 st kg' kn') := by
  rcases st with _ | ⟨y | b, _ | ⟨x | b2, st⟩⟩ <;> first | exact hn | exact h _ _ _
theorem pm_obj_rel {n : Nat} {st : List pm_V} {kg : Nat → Nat → List pm_V → α} {kg' : Nat → Nat → List pm_V → β} {kn : α} {kn' : β} (h : ∀ k ci st, R (kg k ci st) (kg' k ci st)) (hn : R kn kn') : R (pm_obj n st kg kn) (pm_obj n st kg' kn') := by
  rcases st with _ | ⟨x | b | (_ | k) | z, st⟩
  · exact hn
  · exact hn
  · exact hn
  · exact hn
  · show R (match pm_cls n k with | some ci => kg k ci st | none => kn) (match pm_cls n k with | some ci => kg' k ci st | none => kn')
    cases pm_cls n k with
    | none => exact hn
    | some ci => exact h _ _ _
  · exact hn
theorem pm_ald_rel {sc : pm_Sc} {t0 : Nat} {st : List pm_V} {u : pm_S} {kg : pm_V → List pm_V → α} {kg' : pm_V → List pm_V → β} {kn : α} {kn' : β} (h : ∀ v st, R (kg v st) (kg' v st)) (hn : R kn kn') : R (pm_ald sc t0 st u kg kn) (pm_ald sc t0 st u kg' kn') := by
  rcases st with _ | ⟨i | v, _ | ⟨x | b | (_ | k) | z, st⟩⟩ <;> first | exact hn | exact pm_bif_rel (h _ _) hn | skip
  show R (match pm_arr u.1 k with | some (t, len) => _ | none => kn) (match pm_arr u.1 k with | some (t, len) => _ | none => kn')
  rcases pm_arr u.1 k with _ | ⟨t, len⟩
  · exact hn
  · exact pm_bif_rel (h _ _) hn
theorem pm_ast_rel {t0 : Nat} {st : List pm_V} {u : pm_S} {kg : List pm_V → pm_S → α} {kg' : List pm_V → pm_S → β} {kn : α} {kn' : β} (h : ∀ st u, R (kg st u) (kg' st u)) (hn : R kn kn') : R (pm_ast t0 st u kg kn) (pm_ast t0 st u kg' kn') := by
  rcases st with _ | ⟨v, _ | ⟨i | i, _ | ⟨x | b | (_ | k) | z, st⟩⟩⟩ <;> first | exact hn | skip
  show R (match pm_arr u.1 k with | some (t, len) => _ | none => kn) (match pm_arr u.1 k with | some (t, len) => _ | none => kn')
  rcases pm_arr u.1 k with _ | ⟨t, len⟩
  · exact hn
  · exact pm_bif_rel (pm_put_rel (fun u => h _ u) hn) hn
theorem pm_asta_rel {st : List pm_V} {u : pm_S} {kg : List pm_V → pm_S → α} {kg' : List pm_V → pm_S → β} {kn : α} {kn' : β} (h : ∀ st u, R (kg st u) (kg' st u)) (hn : R kn kn') : R (pm_asta st u kg kn) (pm_asta st u kg' kn') := by
  rcases st with _ | ⟨y | d | (_ | q) | w, _ | ⟨i | i, _ | ⟨x | b | (_ | k) | z, st⟩⟩⟩ <;> first | exact hn | skip
  show R (match pm_arr u.1 k, pm_cls u.1 q with | some (t, len), some ci => _ | _, _ => kn) (match pm_arr u.1 k, pm_cls u.1 q with | some (t, len), some ci => _ | _, _ => kn')
  rcases pm_arr u.1 k with _ | ⟨t, len⟩ <;> rcases pm_cls u.1 q with _ | ci <;> first | exact hn | exact pm_bif_rel (h _ _) hn
theorem pm_new_rel {d : pm_Kd} {st : List pm_V} {u : pm_S} {kg : List pm_V → pm_S → α} {kg' : List pm_V → pm_S → β} {kn : α} {kn' : β} (h : ∀ st u, R (kg st u) (kg' st u)) (hn : R kn kn') : R (pm_new d st u kg kn) (pm_new d st u kg' kn') := by
  unfold pm_new
  rcases pm_kd u.1 with _ | a | ⟨a, x⟩ <;> rcases d with b | ⟨b, y⟩ <;> first | exact hn | exact pm_bif_rel (h _ _) hn
variable {c : Nat → List pm_V → pm_S → Option pm_Rs} {sc : pm_Sc} {rk : Nat}
/-- two runs of one step, with continuations that stand in R, stand in R -/
theorem pm_do_rel {ins : Jvm.ClassFile.Instr} {nx : Nat} {ax : List Nat} {lv : pm_Lv} {st : List pm_V} {u : pm_S} {kg : Nat → pm_Lv → List pm_V → pm_S → α} {kg' : Nat → pm_Lv → List pm_V → pm_S → β} {kr : pm_Rs → α} {kr' : pm_Rs → β} {kn : α} {kn' : β}
    (h : ∀ pc lv st u, R (kg pc lv st u) (kg' pc lv st u)) (hr : ∀ r, R (kr r) (kr' r)) (hn : R kn kn') : R (pm_do c sc rk ins nx ax lv st u kg kr kn) (pm_do c sc rk ins nx ax lv st u kg' kr' kn') := by
  cases ins
  case iload_n k => (simp only [pm_do]; exact pm_ld_rel (fun _ => h _ _ _ _) hn)
  case iload k => (simp only [pm_do]; exact pm_ld_rel (fun _ => h _ _ _ _) hn)
  case aload_n k => (simp only [pm_do]; exact pm_la_rel (fun _ => h _ _ _ _) hn)
  case aload k => (simp only [pm_do]; exact pm_la_rel (fun _ => h _ _ _ _) hn)
  case istore_n k => (simp only [pm_do]; exact pm_si_rel (fun _ _ => h _ _ _ _) hn)
  case istore k => (simp only [pm_do]; exact pm_si_rel (fun _ _ => h _ _ _ _) hn)
  case astore_n k => (simp only [pm_do]; exact pm_sa_rel (fun _ _ => h _ _ _ _) hn)
  case astore k => (simp only [pm_do]; exact pm_sa_rel (fun _ _ => h _ _ _ _) hn)
  case iinc i n =>
    show R (match pm_lget lv i with | some (.inl x) => kg nx (pm_lset lv i (.inl (x + Int32.ofInt n))) st u | _ => kn) (match pm_lget lv i with | some (.inl x) => kg' nx (pm_lset lv i (.inl (x + Int32.ofInt n))) st u | _ => kn')
    rcases pm_lget lv i with _ | x | b <;> first | exact hn | exact h _ _ _ _
  case iadd => exact pm_op2_rel (fun _ _ _ => h _ _ _ _) hn
  case isub => exact pm_op2_rel (fun _ _ _ => h _ _ _ _) hn
  case imul => exact pm_op2_rel (fun _ _ _ => h _ _ _ _) hn
  case iand => exact pm_op2_rel (fun _ _ _ => h _ _ _ _) hn
  case ior => exact pm_op2_rel (fun _ _ _ => h _ _ _ _) hn
  case ishl => exact pm_op2_rel (fun _ _ _ => h _ _ _ _) hn
  case ishr => exact pm_op2_rel (fun _ _ _ => h _ _ _ _) hn
  case idiv => exact pm_op2_rel (fun _ _ _ => pm_ite_rel hn (h _ _ _ _)) hn
  case irem => exact pm_op2_rel (fun _ _ _ => pm_ite_rel hn (h _ _ _ _)) hn
  case dup => rcases st with _ | ⟨v, st⟩ <;> first | exact hn | exact h _ _ _ _
  case dup2 => rcases st with _ | ⟨v, _ | ⟨w, st⟩⟩ <;> first | exact hn | exact h _ _ _ _
  case ifCond cd off => rcases st with _ | ⟨x | b | q, st⟩ <;> first | exact hn | exact pm_br_rel (h _ _ _ _) (h _ _ _ _) | exact pm_brb_rel (h _ _ _ _) (h _ _ _ _) hn
  case if_icmp cd off => rcases st with _ | ⟨y | y | q, _ | ⟨x | x | q2, st⟩⟩ <;> first | exact hn | exact pm_br2_rel (h _ _ _ _) (h _ _ _ _) | exact pm_brb2_rel (h _ _ _ _) (h _ _ _ _) hn
  case getfield i => rcases ax with _ | ⟨j, _ | ⟨ty, cis⟩⟩ <;> first | exact hn | exact pm_obj_rel (fun _ _ _ => pm_bif_rel (h _ _ _ _) hn) hn
  case putfield i => rcases ax with _ | ⟨j, _ | ⟨ty, _ | ⟨fi, cis⟩⟩⟩ <;> rcases st with _ | ⟨v, st⟩ <;> first | exact hn | exact pm_obj_rel (fun _ _ _ => pm_bif_rel (pm_put_rel (fun _ => h _ _ _ _) hn) hn) hn
  case iaload => exact pm_ald_rel (fun _ _ => h _ _ _ _) hn
  case baload => exact pm_ald_rel (fun _ _ => h _ _ _ _) hn
  case aaload => exact pm_ald_rel (fun _ _ => h _ _ _ _) hn
  case iastore => exact pm_ast_rel (fun _ _ => h _ _ _ _) hn
  case bastore => exact pm_ast_rel (fun _ _ => h _ _ _ _) hn
  case aastore => exact pm_asta_rel (fun _ _ => h _ _ _ _) hn
  case arraylength => rcases st with _ | ⟨x | b | q | z, st⟩ <;> first | exact hn | exact h _ _ _ _
  case new i => rcases ax with _ | ⟨ci, ax⟩ <;> first | exact hn | exact pm_new_rel (fun _ _ => h _ _ _ _) hn
  case newarray a => rcases ax with _ | ⟨t, _ | ⟨t2, ax⟩⟩ <;> rcases st with _ | ⟨x | b, st⟩ <;> first | exact hn | exact pm_bif_rel (pm_new_rel (fun _ _ => h _ _ _ _) hn) hn
  case anewarray a => rcases ax with _ | ⟨t, _ | ⟨t2, ax⟩⟩ <;> rcases st with _ | ⟨x | b, st⟩ <;> first | exact hn | exact pm_bif_rel (pm_new_rel (fun _ _ => h _ _ _ _) hn) hn
  case invokevirtual i =>
    rcases ax with _ | ⟨na, _ | ⟨xn, ps⟩⟩ <;> first | exact hn | skip
    show R (match pm_pop na [] st with | some (as, st) => _ | none => kn) (match pm_pop na [] st with | some (as, st) => _ | none => kn')
    rcases pm_pop na [] st with _ | ⟨as, st⟩
    · exact hn
    · refine pm_obj_rel (fun k ci st => ?_) hn
      show R (match pm_pair ps ci with | some mi => _ | none => kn) (match pm_pair ps ci with | some mi => _ | none => kn')
      rcases pm_pair ps ci with _ | mi
      · exact hn
      · exact pm_bif_rel (pm_call1_rel (fun _ _ => h _ _ _ _) hn) hn
  case invokespecial i =>
    rcases ax with _ | ⟨na, _ | ⟨mi, ax⟩⟩
    · rcases st with _ | ⟨x | b | (_ | k) | z, st⟩ <;> first | exact hn | exact pm_bif_rel (h _ _ _ _) hn
    · exact hn
    · show R (match pm_pop na [] st with | some (as, .inr (.inr (.inl (some k))) :: st) => _ | _ => kn) (match pm_pop na [] st with | some (as, .inr (.inr (.inl (some k))) :: st) => _ | _ => kn')
      rcases pm_pop na [] st with _ | ⟨as, _ | ⟨x | b | (_ | k) | z, st⟩⟩ <;> first | exact hn | exact pm_bif_rel (pm_call1_rel (fun _ _ => h _ _ _ _) hn) hn
  case invokestatic i =>
    rcases ax with _ | ⟨na, _ | ⟨mi, ax⟩⟩
    · exact hn
    · rcases na with _ | _ | na <;> first | exact hn | exact pm_op2_rel (fun _ _ _ => pm_bif_rel (h _ _ _ _) hn) hn
    · have key : R (match pm_pop na [] st with | some (as, st) => pm_gd st (pm_call1 (fun v u => kg nx lv (v.toList ++ st) u) kn (c mi as u)) kn | none => kn) (match pm_pop na [] st with | some (as, st) => pm_gd st (pm_call1 (fun v u => kg' nx lv (v.toList ++ st) u) kn' (c mi as u)) kn' | none => kn') := by
        rcases pm_pop na [] st with _ | ⟨as, st⟩
        · exact hn
        · exact pm_bif_rel (pm_call1_rel (fun _ _ => h _ _ _ _) hn) hn
      rcases na with _ | _ | na <;> exact key
  case tableswitch d lo hi offs => rcases ax with _ | ⟨d, ts⟩ <;> rcases st with _ | ⟨x | b, st⟩ <;> first | exact hn | exact pm_sw_rel (fun _ => h _ _ _ _) _ _ _
  case ireturn => exact pm_iret_rel hr hn
  case areturn => rcases rk with _ | _ | _ | _ | rk <;> rcases st with _ | ⟨x | b | q | z, _ | ⟨v2, st⟩⟩ <;> first | exact hn | exact hr _
  case return_ => rcases rk with _ | rk <;> rcases st with _ | ⟨x, st⟩ <;> first | exact hn | exact hr _
  all_goals first | exact h _ _ _ _ | exact hn
theorem pm_stp_rel {cd : pm_Cd} {pc : Nat} {lv : pm_Lv} {st : List pm_V} {u : pm_S} {kg : Nat → pm_Lv → List pm_V → pm_S → α} {kg' : Nat → pm_Lv → List pm_V → pm_S → β} {kr : pm_Rs → α} {kr' : pm_Rs → β} {kn : α} {kn' : β}
    (h : ∀ pc lv st u, R (kg pc lv st u) (kg' pc lv st u)) (hr : ∀ r, R (kr r) (kr' r)) (hn : R kn kn') : R (pm_stp c sc rk cd pc lv st u kg kr kn) (pm_stp c sc rk cd pc lv st u kg' kr' kn') := by
  unfold pm_stp
  rcases pm_find cd pc with _ | ⟨ins, nx, ax⟩
  · exact hn
  · exact pm_do_rel h hr hn
end PMR
section PME
variable (c : Nat → List pm_V → pm_S → Option pm_Rs) (sc : pm_Sc) (rk : Nat) (cd : pm_Cd)
def pm_loop : Nat → Nat → pm_Lv → List pm_V → pm_S → Option pm_Rs
  | 0, _, _, _, _ => none
  | f + 1, pc, lv, st, u => pm_stp c sc rk cd pc lv st u (pm_loop f) some none
noncomputable def pm_ev (pc : Nat) (lv : pm_Lv) (st : List pm_V) (u : pm_S) : Option pm_Rs := @dite _ (∃ f r, pm_loop c sc rk cd f pc lv st u = some r) (Classical.propDecidable _) (fun h => pm_loop c sc rk cd (Classical.choose h) pc lv st u) (fun _ => none)
end PME
section PMF
variable {c : Nat → List pm_V → pm_S → Option pm_Rs} {sc : pm_Sc} {rk : Nat} {cd : pm_Cd}
theorem pm_loop_up {r : pm_Rs} : ∀ (f : Nat) (pc : Nat) (lv : pm_Lv) (st : List pm_V) (u : pm_S), pm_loop c sc rk cd f pc lv st u = some r → pm_loop c sc rk cd (f + 1) pc lv st u = some r
  | 0, _, _, _, _, h => by cases h
  | f + 1, pc, lv, st, u, h => by
    revert h
    exact pm_stp_rel (R := fun a b => a = some r → b = some r) (fun pc lv st u => pm_loop_up f pc lv st u) (fun _ h => h) (fun h => h)
theorem pm_loop_le {r : pm_Rs} {f g : Nat} (hfg : f ≤ g) {pc : Nat} {lv : pm_Lv} {st : List pm_V} {u : pm_S} (h : pm_loop c sc rk cd f pc lv st u = some r) : pm_loop c sc rk cd g pc lv st u = some r := by
  induction hfg with
  | refl => exact h
  | step _ ih => exact pm_loop_up _ _ _ _ _ ih
theorem pm_ev_of {r : pm_Rs} {f pc : Nat} {lv : pm_Lv} {st : List pm_V} {u : pm_S} (h : pm_loop c sc rk cd f pc lv st u = some r) : pm_ev c sc rk cd pc lv st u = some r := by
  have he : ∃ f r, pm_loop c sc rk cd f pc lv st u = some r := ⟨f, r, h⟩
  unfold pm_ev
  rw [dif_pos he]
  obtain ⟨r', hr'⟩ := Classical.choose_spec he
  have h1 := pm_loop_le (Nat.le_max_left (Classical.choose he) f) hr'
  have h2 := pm_loop_le (Nat.le_max_right (Classical.choose he) f) h
  rw [h1] at h2
  rw [hr', h2]
theorem pm_ev_some {r : pm_Rs} {pc : Nat} {lv : pm_Lv} {st : List pm_V} {u : pm_S} (h : pm_ev c sc rk cd pc lv st u = some r) : ∃ f, pm_loop c sc rk cd f pc lv st u = some r := by
  unfold pm_ev at h
  by_cases he : ∃ f r, pm_loop c sc rk cd f pc lv st u = some r
  · rw [dif_pos he] at h
    exact ⟨_, h⟩
  · rw [dif_neg he] at h
    cases h
/-- one step on -/
theorem pm_ev_step (pc : Nat) (lv : pm_Lv) (st : List pm_V) (u : pm_S) : pm_ev c sc rk cd pc lv st u = pm_stp c sc rk cd pc lv st u (pm_ev c sc rk cd) some none := by
  have key : ∀ f, pm_loop c sc rk cd f = fun pc lv st u => pm_loop c sc rk cd f pc lv st u := fun _ => rfl
  -- the step, as data
  have hd : ∀ (γ : Type) (kg : Nat → pm_Lv → List pm_V → pm_S → γ) (kr : pm_Rs → γ) (kn : γ), pm_stp c sc rk cd pc lv st u kg kr kn = (match pm_stp (α := pm_St ⊕ Option pm_Rs) c sc rk cd pc lv st u (fun pc lv st u => .inl (pc, lv, st, u)) (fun r => .inr (some r)) (.inr none) with
      | .inl (pc, lv, st, u) => kg pc lv st u
      | .inr (some r) => kr r
      | .inr none => kn) := by
    intro γ kg kr kn
    exact pm_stp_rel (R := fun (a : γ) (t : pm_St ⊕ Option pm_Rs) => a = (match t with | .inl (pc, lv, st, u) => kg pc lv st u | .inr (some r) => kr r | .inr none => kn)) (fun _ _ _ _ => rfl) (fun _ => rfl) rfl
  have hl : ∀ f, pm_loop c sc rk cd (f + 1) pc lv st u = pm_stp c sc rk cd pc lv st u (pm_loop c sc rk cd f) some none := fun _ => rfl
  rw [hd]
  rcases ht : pm_stp (α := pm_St ⊕ Option pm_Rs) c sc rk cd pc lv st u (fun pc lv st u => .inl (pc, lv, st, u)) (fun r => .inr (some r)) (.inr none) with ⟨pc', lv', st', u'⟩ | _ | r
  · have h1 : ∀ f, pm_loop c sc rk cd (f + 1) pc lv st u = pm_loop c sc rk cd f pc' lv' st' u' := fun f => by rw [hl, hd, ht]
    show pm_ev c sc rk cd pc lv st u = pm_ev c sc rk cd pc' lv' st' u'
    cases hv : pm_ev c sc rk cd pc' lv' st' u' with
    | some r =>
      obtain ⟨f, hf⟩ := pm_ev_some hv
      exact pm_ev_of (f := f + 1) (by rw [h1]; exact hf)
    | none =>
      cases hw : pm_ev c sc rk cd pc lv st u with
      | none => rfl
      | some r =>
        obtain ⟨f, hf⟩ := pm_ev_some hw
        have hf1 := pm_loop_up _ _ _ _ _ hf
        rw [h1] at hf1
        rw [pm_ev_of hf1] at hv
        cases hv
  · show pm_ev c sc rk cd pc lv st u = none
    cases hw : pm_ev c sc rk cd pc lv st u with
    | none => rfl
    | some r =>
      obtain ⟨f, hf⟩ := pm_ev_some hw
      have hf1 := pm_loop_up _ _ _ _ _ hf
      rw [hl, hd, ht] at hf1
      cases hf1
  · show pm_ev c sc rk cd pc lv st u = some r
    exact pm_ev_of (f := 1) (by rw [hl, hd, ht])
/-- k steps on -/
theorem pm_ev_iter (cut : List Nat) : ∀ (k : Nat) (pc : Nat) (lv : pm_Lv) (st : List pm_V) (u : pm_S), pm_ev c sc rk cd pc lv st u = pm_iter c sc rk cd cut k pc lv st u (pm_ev c sc rk cd) some none
  | 0, _, _, _, _ => rfl
  | k + 1, pc, lv, st, u => by
    rw [pm_ev_step]
    show _ = pm_stp c sc rk cd pc lv st u (fun pc lv st u => bif cut.any (Nat.beq pc) then pm_ev c sc rk cd pc lv st u else pm_iter c sc rk cd cut k pc lv st u (pm_ev c sc rk cd) some none) some none
    refine pm_stp_rel (R := fun a b => a = b) (fun pc lv st u => ?_) (fun _ => rfl) rfl
    cases cut.any (Nat.beq pc)
    · exact pm_ev_iter cut k pc lv st u
    · rfl
end PMF
def pm_args : Nat → List pm_V → pm_Lv
  | _, [] => []
  | i, v :: vs => (i, v) :: pm_args (i + 1) vs
/-- the machine's calls, to a depth; T: code and kind of answer of each method -/
noncomputable def pm_call (T : Nat → pm_Cd × Nat) (sc : pm_Sc) : Nat → Nat → List pm_V → pm_S → Option pm_Rs
  | 0, mi, av, u => pm_ev (fun _ _ _ => none) sc (T mi).2 (T mi).1 0 (pm_args 0 av) [] u
  | d + 1, mi, av, u => pm_ev (pm_call T sc d) sc (T mi).2 (T mi).1 0 (pm_args 0 av) [] u
/-! places never go away -/
section PMN
variable {c : Nat → List pm_V → pm_S → Option pm_Rs} {sc : pm_Sc} {rk : Nat} {cd : pm_Cd}
theorem pm_put_n {ty k j : Nat} {v : pm_V} {u : pm_S} {kg : pm_S → Prop} {kn : Prop} (h : ∀ u' : pm_S, u'.1 = u.1 → kg u') (hn : kn) : pm_put ty k j v u kg kn := by
  rcases ty with _ | _ | _ | ty <;> rcases v with x | b | (_ | q) | _ <;> first | exact hn | exact h _ rfl | skip
  show if x = 0 then _ else if x = 1 then _ else _
  split
  · exact h _ rfl
  · split
    · exact h _ rfl
    · exact hn
theorem pm_bif_t {x : Bool} {a b : Prop} (ha : a) (hb : b) : (bif x then a else b) := by
  cases x
  · exact hb
  · exact ha
theorem pm_ite_t {p : Prop} {hd : Decidable p} {a b : Prop} (ha : a) (hb : b) : @ite Prop p hd a b := by
  by_cases h : p
  · rw [if_pos h]; exact ha
  · rw [if_neg h]; exact hb
theorem pm_do_all {P : pm_S → Prop} {ins : Jvm.ClassFile.Instr} {nx : Nat} {ax : List Nat} {lv : pm_Lv} {st : List pm_V} {u : pm_S} (h1 : ∀ u' : pm_S, u'.1 = u.1 → P u') (h2 : P (pm_made u)) (h3 : ∀ mi av v u', c mi av u = some (v, u') → P u') : pm_do c sc rk ins nx ax lv st u (fun _ _ _ u' => P u') (fun r => P r.2) True := by
  have h0 : P u := h1 u rfl
  have hc : ∀ mi av, pm_call1 (fun (_ : Option pm_V) u' => P u') True (c mi av u) := by
    intro mi av
    cases hcm : c mi av u with
    | none => exact trivial
    | some q => exact h3 mi av q.1 q.2 hcm
  have hnew : ∀ (d : pm_Kd) (st : List pm_V), pm_new d st u (fun _ u' => P u') True := by
    intro d st
    unfold pm_new
    rcases pm_kd u.1 with _ | a | ⟨a, x⟩ <;> rcases d with b | ⟨b, y⟩ <;> first | exact trivial | exact pm_bif_t h2 trivial
  have hobj : ∀ (st : List pm_V) (kg : Nat → Nat → List pm_V → Prop), (∀ k ci st, kg k ci st) → pm_obj u.1 st kg True := fun st kg h => pm_obj_rel (R := fun (_ : Unit) (p : Prop) => p) (kg := fun _ _ _ => ()) (kn := ()) h trivial
  cases ins
  case iload_n k => exact pm_ld_rel (R := fun (_ : Unit) (p : Prop) => p) (kg := fun _ => ()) (kn := ()) (fun _ => h0) trivial
  case iload k => exact pm_ld_rel (R := fun (_ : Unit) (p : Prop) => p) (kg := fun _ => ()) (kn := ()) (fun _ => h0) trivial
  case aload_n k => exact pm_la_rel (R := fun (_ : Unit) (p : Prop) => p) (kg := fun _ => ()) (kn := ()) (fun _ => h0) trivial
  case aload k => exact pm_la_rel (R := fun (_ : Unit) (p : Prop) => p) (kg := fun _ => ()) (kn := ()) (fun _ => h0) trivial
  case istore_n k => exact pm_si_rel (R := fun (_ : Unit) (p : Prop) => p) (kg := fun _ _ => ()) (kn := ()) (fun _ _ => h0) trivial
  case istore k => exact pm_si_rel (R := fun (_ : Unit) (p : Prop) => p) (kg := fun _ _ => ()) (kn := ()) (fun _ _ => h0) trivial
  case astore_n k => exact pm_sa_rel (R := fun (_ : Unit) (p : Prop) => p) (kg := fun _ _ => ()) (kn := ()) (fun _ _ => h0) trivial
  case astore k => exact pm_sa_rel (R := fun (_ : Unit) (p : Prop) => p) (kg := fun _ _ => ()) (kn := ()) (fun _ _ => h0) trivial
  case iinc i n =>
    show (match pm_lget lv i with | some (.inl x) => P u | _ => True)
    rcases pm_lget lv i with _ | x | b <;> first | exact trivial | exact h0
  case iadd => exact pm_op2_rel (R := fun (_ : Unit) (p : Prop) => p) (kg := fun _ _ _ => ()) (kn := ()) (fun _ _ _ => h0) trivial
  case isub => exact pm_op2_rel (R := fun (_ : Unit) (p : Prop) => p) (kg := fun _ _ _ => ()) (kn := ()) (fun _ _ _ => h0) trivial
  case imul => exact pm_op2_rel (R := fun (_ : Unit) (p : Prop) => p) (kg := fun _ _ _ => ()) (kn := ()) (fun _ _ _ => h0) trivial
  case iand => exact pm_op2_rel (R := fun (_ : Unit) (p : Prop) => p) (kg := fun _ _ _ => ()) (kn := ()) (fun _ _ _ => h0) trivial
  case ior => exact pm_op2_rel (R := fun (_ : Unit) (p : Prop) => p) (kg := fun _ _ _ => ()) (kn := ()) (fun _ _ _ => h0) trivial
  case ishl => exact pm_op2_rel (R := fun (_ : Unit) (p : Prop) => p) (kg := fun _ _ _ => ()) (kn := ()) (fun _ _ _ => h0) trivial
  case ishr => exact pm_op2_rel (R := fun (_ : Unit) (p : Prop) => p) (kg := fun _ _ _ => ()) (kn := ()) (fun _ _ _ => h0) trivial
  case idiv => exact pm_op2_rel (R := fun (_ : Unit) (p : Prop) => p) (kg := fun _ _ _ => ()) (kn := ()) (fun _ _ _ => pm_ite_t trivial h0) trivial
  case irem => exact pm_op2_rel (R := fun (_ : Unit) (p : Prop) => p) (kg := fun _ _ _ => ()) (kn := ()) (fun _ _ _ => pm_ite_t trivial h0) trivial
  case dup => rcases st with _ | ⟨v, st⟩ <;> first | exact trivial | exact h0
  case dup2 => rcases st with _ | ⟨v, _ | ⟨w, st⟩⟩ <;> first | exact trivial | exact h0
  case ifCond cd off => rcases st with _ | ⟨x | b | q, st⟩ <;> first | exact trivial | exact pm_br_rel (R := fun (_ : Unit) (p : Prop) => p) (a := ()) (b := ()) h0 h0 | exact pm_brb_rel (R := fun (_ : Unit) (p : Prop) => p) (a := ()) (b := ()) (d := ()) h0 h0 trivial
  case if_icmp cd off => rcases st with _ | ⟨y | y | q, _ | ⟨x | x | q2, st⟩⟩ <;> first | exact trivial | exact pm_br2_rel (R := fun (_ : Unit) (p : Prop) => p) (a := ()) (b := ()) h0 h0 | exact pm_brb2_rel (R := fun (_ : Unit) (p : Prop) => p) (a := ()) (b := ()) (d := ()) h0 h0 trivial
  case getfield i => rcases ax with _ | ⟨j, _ | ⟨ty, cis⟩⟩ <;> first | exact trivial | exact hobj _ _ (fun _ _ _ => pm_bif_t h0 trivial)
  case putfield i => rcases ax with _ | ⟨j, _ | ⟨ty, _ | ⟨fi, cis⟩⟩⟩ <;> rcases st with _ | ⟨v, st⟩ <;> first | exact trivial | exact hobj _ _ (fun _ _ _ => pm_bif_t (pm_put_n h1 trivial) trivial)
  case iaload => exact pm_ald_rel (R := fun (_ : Unit) (p : Prop) => p) (kg := fun _ _ => ()) (kn := ()) (fun _ _ => h0) trivial
  case baload => exact pm_ald_rel (R := fun (_ : Unit) (p : Prop) => p) (kg := fun _ _ => ()) (kn := ()) (fun _ _ => h0) trivial
  case aaload => exact pm_ald_rel (R := fun (_ : Unit) (p : Prop) => p) (kg := fun _ _ => ()) (kn := ()) (fun _ _ => h0) trivial
  case iastore =>
    rcases st with _ | ⟨v, _ | ⟨i | i, _ | ⟨x | b | (_ | k) | z, st⟩⟩⟩ <;> first | exact trivial | skip
    show (match pm_arr u.1 k with | some (t, len) => _ | none => True)
    rcases pm_arr u.1 k with _ | ⟨t, len⟩
    · exact trivial
    · exact pm_bif_t (pm_put_n h1 trivial) trivial
  case bastore =>
    rcases st with _ | ⟨v, _ | ⟨i | i, _ | ⟨x | b | (_ | k) | z, st⟩⟩⟩ <;> first | exact trivial | skip
    show (match pm_arr u.1 k with | some (t, len) => _ | none => True)
    rcases pm_arr u.1 k with _ | ⟨t, len⟩
    · exact trivial
    · exact pm_bif_t (pm_put_n h1 trivial) trivial
  case aastore =>
    rcases st with _ | ⟨y | d | (_ | q) | w, _ | ⟨i | i, _ | ⟨x | b | (_ | k) | z, st⟩⟩⟩ <;> first | exact trivial | skip
    show (match pm_arr u.1 k, pm_cls u.1 q with | some (t, len), some ci => _ | _, _ => True)
    rcases pm_arr u.1 k with _ | ⟨t, len⟩ <;> rcases pm_cls u.1 q with _ | ci <;> first | exact trivial | exact pm_bif_t (h1 _ rfl) trivial
  case arraylength => rcases st with _ | ⟨x | b | q | z, st⟩ <;> first | exact trivial | exact h0
  case new i => rcases ax with _ | ⟨ci, ax⟩ <;> first | exact trivial | (simp only [pm_do]; exact hnew (.inl ci) st)
  case newarray a => rcases ax with _ | ⟨t, _ | ⟨t2, ax⟩⟩ <;> rcases st with _ | ⟨x | b, st⟩ <;> first | exact trivial | exact pm_bif_t (hnew _ _) trivial
  case anewarray a => rcases ax with _ | ⟨t, _ | ⟨t2, ax⟩⟩ <;> rcases st with _ | ⟨x | b, st⟩ <;> first | exact trivial | exact pm_bif_t (hnew _ _) trivial
  case invokevirtual i =>
    rcases ax with _ | ⟨na, _ | ⟨xn, ps⟩⟩ <;> first | exact trivial | skip
    show (match pm_pop na [] st with | some (as, st) => _ | none => True)
    rcases pm_pop na [] st with _ | ⟨as, st⟩
    · exact trivial
    · refine hobj _ _ (fun k ci st => ?_)
      show (match pm_pair ps ci with | some mi => _ | none => True)
      rcases pm_pair ps ci with _ | mi
      · exact trivial
      · exact pm_bif_t (hc _ _) trivial
  case invokespecial i =>
    rcases ax with _ | ⟨na, _ | ⟨mi, ax⟩⟩
    · rcases st with _ | ⟨x | b | (_ | k) | z, st⟩ <;> first | exact trivial | exact pm_bif_t h0 trivial
    · exact trivial
    · show (match pm_pop na [] st with | some (as, .inr (.inr (.inl (some k))) :: st) => _ | _ => True)
      rcases pm_pop na [] st with _ | ⟨as, _ | ⟨x | b | (_ | k) | z, st⟩⟩ <;> first | exact trivial | exact pm_bif_t (hc _ _) trivial
  case invokestatic i =>
    rcases ax with _ | ⟨na, _ | ⟨mi, ax⟩⟩
    · exact trivial
    · rcases na with _ | _ | na <;> first | exact trivial | exact pm_op2_rel (R := fun (_ : Unit) (p : Prop) => p) (kg := fun _ _ _ => ()) (kn := ()) (fun _ _ _ => pm_bif_t h0 trivial) trivial
    · have key : (match pm_pop na [] st with | some (as, st) => pm_gd st (pm_call1 (fun (_ : Option pm_V) u' => P u') True (c mi as u)) True | none => True) := by
        rcases pm_pop na [] st with _ | ⟨as, st⟩
        · exact trivial
        · exact pm_bif_t (hc _ _) trivial
      rcases na with _ | _ | na <;> exact key
  case tableswitch d lo hi offs => rcases ax with _ | ⟨d, ts⟩ <;> rcases st with _ | ⟨x | b, st⟩ <;> first | exact trivial | exact pm_sw_rel (R := fun (_ : Unit) (p : Prop) => p) (kg := fun _ => ()) (fun _ => h0) _ _ _
  case ireturn => rcases rk with _ | _ | _ | rk <;> rcases st with _ | ⟨x | b | (_ | q) | _, _ | ⟨v2, st⟩⟩ <;> first | exact trivial | exact h0 | exact pm_ite_t h0 (pm_ite_t h0 trivial)
  case areturn => rcases rk with _ | _ | _ | _ | rk <;> rcases st with _ | ⟨x | b | q | z, _ | ⟨v2, st⟩⟩ <;> first | exact trivial | exact h0
  case return_ => rcases rk with _ | rk <;> rcases st with _ | ⟨x, st⟩ <;> first | exact trivial | exact h0
  all_goals first | exact h0 | exact trivial
theorem pm_loop_n (hc : ∀ mi av u v u', c mi av u = some (v, u') → u.1 ≤ u'.1) {r : pm_Rs} : ∀ (f : Nat) (pc : Nat) (lv : pm_Lv) (st : List pm_V) (u : pm_S), pm_loop c sc rk cd f pc lv st u = some r → u.1 ≤ r.2.1
  | 0, _, _, _, _, h => by cases h
  | f + 1, pc, lv, st, u, h => by
    have hP : pm_stp c sc rk cd pc lv st u (fun _ _ _ u' => u.1 ≤ u'.1) (fun r => u.1 ≤ r.2.1) True := by
      unfold pm_stp
      rcases pm_find cd pc with _ | ⟨ins, nx, ax⟩
      · exact trivial
      · exact pm_do_all (P := fun u' => u.1 ≤ u'.1) (fun u' e => Nat.le_of_eq e.symm) (Nat.le_succ _) (fun mi av v u' hv => hc mi av u v u' hv)
    revert h hP
    exact pm_stp_rel (R := fun (a : Option pm_Rs) (p : Prop) => a = some r → p → u.1 ≤ r.2.1) (fun pc lv st u' h hP => Nat.le_trans hP (pm_loop_n hc f pc lv st u' h)) (fun r' h hP => by cases h; exact hP) (fun h => by cases h)
end PMN
theorem pm_call_n {T : Nat → pm_Cd × Nat} {sc : pm_Sc} : ∀ (d mi : Nat) (av : List pm_V) (u : pm_S) (v : Option pm_V) (u' : pm_S), pm_call T sc d mi av u = some (v, u') → u.1 ≤ u'.1
  | 0, mi, av, u, v, u', h => by
    obtain ⟨f, hf⟩ := pm_ev_some h
    exact pm_loop_n (r := (v, u')) (fun _ _ _ _ _ h => by cases h) f _ _ _ _ hf
  | d + 1, mi, av, u, v, u', h => by
    obtain ⟨f, hf⟩ := pm_ev_some h
    exact pm_loop_n (r := (v, u')) (fun mi av u v u' h => pm_call_n d mi av u v u' h) f _ _ _ _ hf
end
section
/-! The memory of places in the model's heap: place k stands at z + k, z the heap's size at the law's start; all that is made since is a place, in the order of making. -/
def pm_cn (k : Nat) : String := ["PlatformDoors", "PlatformDoors$Frame", "PlatformDoors$Leaf", "PlatformDoors$Line", "PlatformDoors$Platform", "PlatformDoors$Train", "PlatformDoorsModel", "PlatformDoors$Side", "PlatformDoorsLaw"].getD k ""
abbrev pm_Fd : Type := String × String × String × Bool × Nat
def pm_side : List pm_Fd := [("PlatformDoors$Side", "leaves", "[LPlatformDoors$Leaf;", true, 2), ("PlatformDoors$Side", "newest", "LPlatformDoors$Frame;", true, 2), ("PlatformDoors$Side", "incoming", "LPlatformDoors$Line;", true, 2), ("PlatformDoors$Side", "outgoing", "LPlatformDoors$Line;", true, 2), ("PlatformDoors$Side", "steps", "I", false, 0), ("PlatformDoors$Side", "state", "I", false, 0), ("PlatformDoors$Side", "warningBegan", "I", false, 0), ("PlatformDoors$Side", "openedAt", "I", false, 0), ("PlatformDoors$Side", "openings", "I", false, 0)]
def pm_mf (n : String) (d : String) (t : Nat) : pm_Fd := ("PlatformDoorsModel", n, d, Nat.beq t 2, t)
def pm_fd : List (String × List pm_Fd) := [
  ("PlatformDoors", [("PlatformDoors", "train", "LPlatformDoors$Train;", true, 2), ("PlatformDoors", "platform", "LPlatformDoors$Platform;", true, 2), ("PlatformDoors", "stoodAt", "I", false, 0), ("PlatformDoors", "breachCount", "I", false, 0)]),
  ("PlatformDoors$Frame", [("PlatformDoors$Frame", "number", "I", false, 0), ("PlatformDoors$Frame", "echo", "I", false, 0), ("PlatformDoors$Frame", "state", "I", false, 0), ("PlatformDoors$Frame", "isolatedBits", "I", false, 0), ("PlatformDoors$Frame", "assured", "Z", false, 1), ("PlatformDoors$Frame", "commandIsOpen", "Z", false, 1)]),
  ("PlatformDoors$Leaf", [("PlatformDoors$Leaf", "contacts", "[I", true, 2), ("PlatformDoors$Leaf", "position", "I", false, 0), ("PlatformDoors$Leaf", "retries", "I", false, 0), ("PlatformDoors$Leaf", "reopening", "I", false, 0), ("PlatformDoors$Leaf", "obstructed", "I", false, 0), ("PlatformDoors$Leaf", "wantedOpen", "Z", false, 1), ("PlatformDoors$Leaf", "isolated", "Z", false, 1), ("PlatformDoors$Leaf", "released", "Z", false, 1), ("PlatformDoors$Leaf", "callsStaff", "Z", false, 1)]),
  ("PlatformDoors$Line", [("PlatformDoors$Line", "frames", "[LPlatformDoors$Frame;", true, 2), ("PlatformDoors$Line", "count", "I", false, 0)]),
  ("PlatformDoors$Platform", pm_side),
  ("PlatformDoors$Train", pm_side ++ [("PlatformDoors$Train", "place", "I", false, 0), ("PlatformDoors$Train", "speed", "I", false, 0), ("PlatformDoors$Train", "measuringError", "I", false, 0), ("PlatformDoors$Train", "stepsAtRest", "I", false, 0), ("PlatformDoors$Train", "commandIsOpen", "Z", false, 1)]),
  ("PlatformDoorsModel", [pm_mf "steps" "[I" 2, pm_mf "state" "[I" 2, pm_mf "warned" "[I" 2, pm_mf "opened" "[I" 2, pm_mf "has" "[Z" 2, pm_mf "taken" "[I" 2, pm_mf "many" "[I" 2, pm_mf "frames" "[I" 2, pm_mf "position" "[I" 2, pm_mf "isolated" "[Z" 2, pm_mf "released" "[Z" 2, pm_mf "wanted" "[Z" 2, pm_mf "staff" "[Z" 2, pm_mf "obstructed" "[I" 2, pm_mf "retries" "[I" 2, pm_mf "reopening" "[I" 2, pm_mf "contacts" "[I" 2, pm_mf "place" "I" 0, pm_mf "speed" "I" 0, pm_mf "error" "I" 0, pm_mf "still" "I" 0, pm_mf "command" "Z" 1, pm_mf "there" "I" 0, pm_mf "breaches" "I" 0])]
def pm_T (fs : List pm_Fd) : u_T := fun k => ((fs.getD k ("", "", "", false, 0)).1, (fs.getD k ("", "", "", false, 0)).2.1, (fs.getD k ("", "", "", false, 0)).2.2.1, (fs.getD k ("", "", "", false, 0)).2.2.2.1)
def pm_tl (fs : List pm_Fd) : List Nat := fs.map (fun q => q.2.2.2.2)
def pm_cl : List vw_C := pm_fd.map (fun q => (q.1, pm_T q.2, q.2.length))
def pm_fs0 (ci : Nat) : List pm_Fd := (pm_fd.getD ci ("", [])).2
abbrev pm_G : Type := va_G × (Nat → ClassId) × Nat × Nat
def pm_rz (z : Nat) (q : Option Nat) : Option Nat := q.map (fun k => z + k)
def pm_vl (z b : Nat) : pm_V → Value
  | .inl x => .int x
  | .inr (.inl w) => .int (bif w then 1 else 0)
  | .inr (.inr (.inl q)) => va_rf (pm_rz z q)
  | .inr (.inr (.inr _)) => .ref b
theorem pm_cat (z b : Nat) (v : pm_V) : (pm_vl z b v).category = 1 := by
  rcases v with x | w | (_ | q) | _ <;> rfl
def pm_sv (ty z : Nat) (x : Int32) (w : Bool) (r : Option Nat) : Value := match ty with
  | 0 => .int x
  | 1 => .int (bif w then 1 else 0)
  | _ => va_rf (pm_rz z r)
theorem pm_vl_get (z b ty k j : Nat) (u : pm_S) : pm_vl z b (pm_get ty k j u) = pm_sv ty z (u.2.1 k j) (u.2.2.1 k j) (u.2.2.2 k j) := by
  rcases ty with _ | _ | ty <;> rfl
def pm_fs (tl : List Nat) (z : Nat) (x : Nat → Int32) (w : Nat → Bool) (r : Nat → Option Nat) : List Value := (List.range tl.length).map (fun j => pm_sv (tl.getD j 0) z (x j) (w j) (r j))
def pm_ac (t z : Nat) (x : Nat → Int32) (w : Nat → Bool) (r : Nat → Option Nat) : (Nat → Int32) ⊕ (Nat → Int64) ⊕ (Nat → UInt32) ⊕ (Nat → UInt64) ⊕ (Nat → Option Nat) := match t with
  | 0 => .inl x
  | 1 => .inl (fun j => bif w j then 1 else 0)
  | _ => .inr (.inr (.inr (.inr (fun j => pm_rz z (r j)))))
def pm_cell (G : pm_G) (d : pm_Kd) (x : Nat → Int32) (w : Nat → Bool) (r : Nat → Option Nat) : va_E := match d with
  | .inl ci => .inr (ci, pm_fs (pm_tl (pm_fs0 ci)) G.2.2.1 x w r)
  | .inr (t, len) => .inl (G.2.1 t, len, pm_ac t G.2.2.1 x w r)
def pm_kx (k : Nat) : pm_Kd := (pm_kd k).getD (.inl 0)
def pm_ws (G : pm_G) (u : pm_S) : va_W := (List.range u.1).map (fun k => (G.2.2.1 + k, pm_cell G (pm_kx k) (u.2.1 k) (u.2.2.1 k) (u.2.2.2 k)))
/-- the heap holds the memory, and ends behind its last place -/
def pm_H (G : pm_G) (u : pm_S) (H : Heap) : Prop := H.size = G.2.2.1 + u.1 ∧ va_P G.1 pm_cl (pm_ws G u) H
def pm_A (G : pm_G) : Nat → Prop := fun q => G.2.2.1 ≤ q
theorem pm_ws_get {G : pm_G} {u : pm_S} {k : Nat} (h : k < u.1) : (pm_ws G u)[k]? = some (G.2.2.1 + k, pm_cell G (pm_kx k) (u.2.1 k) (u.2.2.1 k) (u.2.2.2 k)) := by
  unfold pm_ws
  rw [List.getElem?_map, List.getElem?_range h]
  rfl
theorem pm_ws_D {G : pm_G} {u : pm_S} : va_D (pm_A G) (pm_ws G u) := by
  have key : ∀ (k : Nat) (q : Nat × va_E), (pm_ws G u)[k]? = some q → q.1 = G.2.2.1 + k := by
    intro k q hk
    have hl : k < u.1 := by
      have := (List.getElem?_eq_some_iff.mp hk).1
      simpa [pm_ws] using this
    rw [pm_ws_get hl] at hk
    cases hk
    rfl
  refine ⟨fun i j p q hi hj hpq => ?_, fun k q hk => ?_⟩
  · have h1 := key i p hi
    have h2 := key j q hj
    omega
  · show G.2.2.1 ≤ q.1
    rw [key k q hk]
    omega
/-- a cell is written: the memory differs at that place alone -/
theorem pm_ws_set {G : pm_G} {u u' : pm_S} {k : Nat} {e : va_E} (hn : u'.1 = u.1) (he : pm_cell G (pm_kx k) (u'.2.1 k) (u'.2.2.1 k) (u'.2.2.2 k) = e) (hx : ∀ a, a ≠ k → u'.2.1 a = u.2.1 a) (hw : ∀ a, a ≠ k → u'.2.2.1 a = u.2.2.1 a) (hr : ∀ a, a ≠ k → u'.2.2.2 a = u.2.2.2 a) : (pm_ws G u).set k (G.2.2.1 + k, e) = pm_ws G u' := by
  apply List.ext_getElem?
  intro i
  rw [List.getElem?_set]
  by_cases hi : i < u.1
  · rw [pm_ws_get (u := u') (by omega)]
    by_cases hk : k = i
    · subst hk
      have hl : k < (pm_ws G u).length := by simpa [pm_ws] using hi
      rw [if_pos rfl, if_pos hl, he]
    · rw [if_neg hk, pm_ws_get hi, hx i (Ne.symm hk), hw i (Ne.symm hk), hr i (Ne.symm hk)]
  · have h1 : (pm_ws G u).length ≤ i := by simpa [pm_ws] using Nat.not_lt.mp hi
    have h2 : (pm_ws G u').length ≤ i := by simp [pm_ws]; omega
    rw [List.getElem?_eq_none h2]
    by_cases hk : k = i
    · subst hk
      rw [if_pos rfl, if_neg (by omega)]
    · rw [if_neg hk, List.getElem?_eq_none h1]
/-- a new place -/
theorem pm_ws_push {G : pm_G} {u u' : pm_S} {e : va_E} (hn : u'.1 = u.1 + 1) (he : pm_cell G (pm_kx u.1) (u'.2.1 u.1) (u'.2.2.1 u.1) (u'.2.2.2 u.1) = e) (hx : ∀ a, a ≠ u.1 → u'.2.1 a = u.2.1 a) (hw : ∀ a, a ≠ u.1 → u'.2.2.1 a = u.2.2.1 a) (hr : ∀ a, a ≠ u.1 → u'.2.2.2 a = u.2.2.2 a) : pm_ws G u ++ [(G.2.2.1 + u.1, e)] = pm_ws G u' := by
  apply List.ext_getElem?
  intro i
  have hlen : (pm_ws G u).length = u.1 := by simp [pm_ws]
  by_cases hi : i < u.1
  · rw [List.getElem?_append_left (by omega), pm_ws_get hi, pm_ws_get (u := u') (by omega), hx i (by omega), hw i (by omega), hr i (by omega)]
  · by_cases hk : i = u.1
    · subst hk
      rw [List.getElem?_append_right (by omega), hlen, Nat.sub_self, pm_ws_get (u := u') (by omega), he]
      rfl
    · have h2 : (pm_ws G u').length ≤ i := by simp [pm_ws]; omega
      rw [List.getElem?_eq_none h2, List.getElem?_eq_none (by simp [hlen]; omega)]
theorem pm_up_ne {α : Type} {x : Nat → Nat → α} {k j a : Nat} {v : α} (h : a ≠ k) : pm_up x k j v a = x a := by
  funext b
  have : Nat.beq a k = false := by
    cases hb : Nat.beq a k
    · rfl
    · exact absurd (Nat.eq_of_beq_eq_true hb) h
  simp [pm_up, this]
theorem pm_up_at {α : Type} {x : Nat → Nat → α} {k j b : Nat} {v : α} : pm_up x k j v k b = if b = j then v else x k b := by
  have h1 : Nat.beq k k = true := Nat.beq_refl k
  by_cases h : b = j
  · subst h
    simp [pm_up, h1, Nat.beq_refl]
  · have : Nat.beq b j = false := by
      cases hb : Nat.beq b j
      · rfl
      · exact absurd (Nat.eq_of_beq_eq_true hb) h
    simp [pm_up, h1, this, h]
theorem pm_up_eq {α : Type} {x : Nat → Nat → α} {k j a b : Nat} {v : α} : pm_up x k j v a b = if a = k ∧ b = j then v else x a b := by
  by_cases h : a = k
  · subst h
    rw [pm_up_at]
    by_cases hb : b = j
    · rw [if_pos hb, if_pos ⟨rfl, hb⟩]
    · rw [if_neg hb, if_neg (fun z => hb z.2)]
  · rw [pm_up_ne h, if_neg (fun z => h z.1)]
theorem pm_fz_ne {α : Type} {x : Nat → Nat → α} {k a : Nat} {v : α} (h : a ≠ k) : pm_fz x k v a = x a := by
  funext b
  have : Nat.beq a k = false := by
    cases hb : Nat.beq a k
    · rfl
    · exact absurd (Nat.eq_of_beq_eq_true hb) h
  simp [pm_fz, this]
theorem pm_fz_at {α : Type} {x : Nat → Nat → α} {k : Nat} {v : α} : pm_fz x k v k = fun _ => v := by
  funext b
  simp [pm_fz, Nat.beq_refl]
theorem pm_fs_get {tl : List Nat} {z : Nat} {x : Nat → Int32} {w : Nat → Bool} {r : Nat → Option Nat} {j : Nat} (h : j < tl.length) : (pm_fs tl z x w r)[j]? = some (pm_sv (tl.getD j 0) z (x j) (w j) (r j)) := by
  unfold pm_fs
  rw [List.getElem?_map, List.getElem?_range h]
  rfl
theorem pm_fs_len {tl : List Nat} {z : Nat} {x : Nat → Int32} {w : Nat → Bool} {r : Nat → Option Nat} : (pm_fs tl z x w r).length = tl.length := by simp [pm_fs]
theorem pm_fs_set {tl : List Nat} {z : Nat} {x x' : Nat → Int32} {w w' : Nat → Bool} {r r' : Nat → Option Nat} {j : Nat} {v : Value} (hj : j < tl.length) (hs : pm_sv (tl.getD j 0) z (x' j) (w' j) (r' j) = v) (hx : ∀ b, b ≠ j → x' b = x b) (hw : ∀ b, b ≠ j → w' b = w b) (hr : ∀ b, b ≠ j → r' b = r b) : (pm_fs tl z x w r).set j v = pm_fs tl z x' w' r' := by
  apply List.ext_getElem?
  intro i
  rw [List.getElem?_set]
  by_cases hi : i < tl.length
  · rw [pm_fs_get (x := x') hi]
    by_cases hk : j = i
    · subst hk
      rw [if_pos rfl, if_pos (by rw [pm_fs_len]; exact hi), hs]
    · rw [if_neg hk, pm_fs_get hi, hx i (Ne.symm hk), hw i (Ne.symm hk), hr i (Ne.symm hk)]
  · have h1 : (pm_fs tl z x w r).length ≤ i := by rw [pm_fs_len]; omega
    have h2 : (pm_fs tl z x' w' r').length ≤ i := by rw [pm_fs_len]; omega
    rw [List.getElem?_eq_none h2]
    by_cases hk : j = i
    · subst hk
      rw [if_pos rfl, if_neg (by omega)]
    · rw [if_neg hk, List.getElem?_eq_none h1]
/-! places by their kind -/
theorem pm_blt {a b : Nat} (h : Nat.blt a b = true) : a < b := Nat.le_of_ble_eq_true h
theorem pm_beq {a b : Nat} (h : Nat.beq a b = true) : a = b := Nat.eq_of_beq_eq_true h
theorem pm_cls_spec {n k ci : Nat} (h : pm_cls n k = some ci) : k < n ∧ pm_kd k = some (.inl ci) := by
  unfold pm_cls at h
  cases hb : Nat.blt k n with
  | false => rw [hb] at h; cases h
  | true =>
    rw [hb] at h
    refine ⟨pm_blt hb, ?_⟩
    revert h
    cases hk : pm_kd k with
    | none => intro h; cases h
    | some d =>
      rcases d with a | a
      · intro h
        simp at h
        rw [h]
      · intro h; cases h
theorem pm_arr_spec {n k : Nat} {a : Nat × Nat} (h : pm_arr n k = some a) : k < n ∧ pm_kd k = some (.inr a) := by
  unfold pm_arr at h
  cases hb : Nat.blt k n with
  | false => rw [hb] at h; cases h
  | true =>
    rw [hb] at h
    refine ⟨pm_blt hb, ?_⟩
    revert h
    cases hk : pm_kd k with
    | none => intro h; cases h
    | some d =>
      rcases d with a | a
      · intro h; cases h
      · intro h
        simp at h
        rw [h]
theorem pm_kx_of {k : Nat} {d : pm_Kd} (h : pm_kd k = some d) : pm_kx k = d := by
  unfold pm_kx
  rw [h]
  rfl
theorem pm_ib_in {i : Int32} {len : Nat} (h : pm_ib i len = true) : vp_in i len := by
  unfold pm_ib at h
  simp only [Bool.and_eq_true, Bool.not_eq_true', decide_eq_false_iff_not] at h
  intro q
  rcases q with q | q
  · exact h.1 q
  · have := pm_blt h.2
    omega
end
section
/-! The words, the contract, and what a row of code must keep to. -/
def pm_ga : List Cond := pm_tb.filter goodWord
def pm_has (w : Cond) : Bool := decide (w ∈ pm_tb) && goodWord w
theorem pm_in {w : Cond} (h : pm_has w = true) : w ∈ pm_ga := by
  simp only [pm_has, Bool.and_eq_true, decide_eq_true_eq] at h
  exact List.mem_filter.mpr h
theorem pm_goodIn {ws : List Cond} (h : ∀ w ∈ ws, w ∈ pm_ga) : GoodIn pm_ga ws := fun w hw => ⟨h w hw, good_of_word (List.mem_filter.mp (h w hw)).2⟩
def pm_isN : Cond → Bool
  | .methodLinkNest _ _ _ _ => true
  | .declares _ => true
  | _ => false
def pm_hasN (w : Cond) : Bool := decide (w ∈ pm_tb) && pm_isN w
def pm_tys (c : Nat → ClassId) : List (ClassId × FieldType) := [(c 0, .int), (c 1, .boolean), (c 2, .object "PlatformDoors$Frame"), (c 3, .object "PlatformDoors$Leaf")]
def pm_K (G : pm_G) (U : State) : Prop := va_K G.1 pm_cl (pm_tys G.2.1) U ∧ (∀ w, pm_hasN w = true → va_Nw w U) ∧ va_AO "PlatformDoors$Frame" U ∧ va_AO "PlatformDoors$Leaf" U
theorem pm_isN_cases {w : Cond} (h : pm_isN w = true) : (∃ a i x b, w = .methodLinkNest a i x b) ∨ ∃ x, w = .declares x := by
  cases w <;> first | (exact Or.inl ⟨_, _, _, _, rfl⟩) | (exact Or.inr ⟨_, rfl⟩) | (exact absurd h (by decide)) | (simp [pm_isN] at h)
theorem pm_K.moved {G : pm_G} {s U : State} (hW : s.WarmedH U.vm) (h : pm_K G s) : pm_K G U := by
  refine ⟨va_K.moved hW.alike h.1, fun w hw => ?_, va_AO.moved hW.alike h.2.2.1, va_AO.moved hW.alike h.2.2.2⟩
  have h1 := h.2.1 w hw
  simp only [pm_hasN, Bool.and_eq_true] at hw
  rcases pm_isN_cases hw.2 with ⟨a, i, x, b, rfl⟩ | ⟨x, rfl⟩
  · exact va_Nw.warmM hW h1
  · exact va_Nw.warmD hW h1
theorem pm_K.same {G : pm_G} {u U : State} (hv : u.vm = U.vm) (h : pm_K G u) : pm_K G U := by
  have ha : u.vm.Alike U.vm := by rw [hv]; exact Vm.Alike.refl _
  refine ⟨va_K.moved ha h.1, fun w hw => ?_, va_AO.moved ha h.2.2.1, va_AO.moved ha h.2.2.2⟩
  have h1 := h.2.1 w hw
  simp only [pm_hasN, Bool.and_eq_true] at hw
  rcases pm_isN_cases hw.2 with ⟨a, i, x, b, rfl⟩ | ⟨x, rfl⟩
  · exact va_Nw.same rfl hv h1
  · exact va_Nw.same rfl hv h1
/-- the script lies below all places -/
def pm_X (G : pm_G) (sc : pm_Sc) (U : State) (H : Heap) : Prop := va_X G.2.2.2 sc.1 sc.2 U H ∧ G.2.2.2 < G.2.2.1
def pm_rm (d mc ms : Nat) : Room := { frames := d + 1, cells := mc, slots := ms, locals := 30 * (d + 1) }
def pm_sz (k : Nat) : Nat := match pm_kx k with
  | .inl ci => (pm_fs0 ci).length
  | .inr a => a.2
def pm_sl : Nat → Nat
  | 0 => 0
  | n + 1 => pm_sl n + pm_sz n
theorem pm_sl_le {a b : Nat} (h : a ≤ b) : pm_sl a ≤ pm_sl b := by
  induction h with
  | refl => exact Nat.le_refl _
  | step _ ih => exact Nat.le_trans ih (Nat.le_add_right _ _)
abbrev pm_Mt : Type := MethodName × ByteArray × Nat × Option FieldType × pm_Cd × Nat
def pm_Q (G : pm_G) (v : Option Value) (u : pm_S) : Array Value → State → Outcome → State → Prop := fun _ st oc t => oc = .returned v ∧ pm_H G u t.heap ∧ va_F (pm_A G) st t
def pm_Pc (G : pm_G) (sc : pm_Sc) (av : List pm_V) (u : pm_S) : Array Value → State → Prop := va_Pc (av.map (pm_vl G.2.2.1 G.2.2.2)) (fun U => pm_H G u U.heap ∧ pm_K G U ∧ pm_X G sc U U.heap)
/-- the contract: from memory u, with the arguments av, the method M answers v and leaves memory u' -/
def pm_M (l : Launch) (G : pm_G) (sc : pm_Sc) (d : Nat) (M : pm_Mt) (av : List pm_V) (u : pm_S) (v : Option pm_V) (u' : pm_S) : Prop :=
  Met l M.1 (.code M.1 M.2.1 M.2.2.1 M.2.2.2.1 :: pm_ga) (pm_rm d (u'.1 - u.1) (pm_sl u'.1 - pm_sl u.1)) (pm_Pc G sc av u) (pm_Q G (v.map (pm_vl G.2.2.1 G.2.2.2)) u') (u'.1 - u.1) (pm_sl u'.1 - pm_sl u.1) (pm_A G)
theorem pm_blind (G : pm_G) (sc : pm_Sc) (av : List pm_V) (u : pm_S) : FrameBlind (pm_Pc G sc av u) := fun a U g mk h => ⟨h.1, h.2.1, pm_K.same (u := U) (U := U.calling g mk a) rfl h.2.2.1, va_X.moved (u := U) (U := U.calling g mk a) (Vm.Alike.refl U.vm) h.2.2.2.1, h.2.2.2.2⟩
/-! rows of code: what is checked of each, by computation -/
def pm_len (ins : Jvm.ClassFile.Instr) (d : Nat) : Nat := match ins with
  | .bipush _ => 2
  | .iload _ => 2
  | .aload _ => 2
  | .istore _ => 2
  | .astore _ => 2
  | .ldc _ => 2
  | .newarray _ => 2
  | .sipush _ => 3
  | .iinc _ _ => 3
  | .ifCond _ _ => 3
  | .if_icmp _ _ => 3
  | .goto _ => 3
  | .getfield _ => 3
  | .putfield _ => 3
  | .new _ => 3
  | .anewarray _ => 3
  | .invokevirtual _ => 3
  | .invokespecial _ => 3
  | .invokestatic _ => 3
  | .tableswitch _ _ _ _ => d
  | _ => 1
def pm_refs : List String := ["PlatformDoors", "PlatformDoors$Frame", "PlatformDoors$Leaf", "PlatformDoors$Line", "PlatformDoors$Platform", "PlatformDoors$Train", "PlatformDoorsModel", "PlatformDoors$Side"]
def pm_fok (own : String) (i ci j ty : Nat) : Bool := match pm_fd[ci]? with
  | some (_, fs) => (match fs[j]? with
    | some (D, nm, ds, _, t) => Nat.beq t ty && pm_refs.any (fun ref => pm_has (.fieldLink own i ref nm ds) && (decide (ref = D) || pm_has (.sameField ref D nm ds)))
    | none => false)
  | none => false
def pm_fin (own : String) (ini : Bool) (ci j : Nat) : Bool := match (pm_fs0 ci)[j]? with
  | some (D, _, _, fin, _) => !fin || (ini && decide (D = own))
  | none => false
def pm_desc (y : MethodName) (na : Nat) : Bool := decide (y.cls ≠ "java/lang/invoke/MethodHandle") && decide (y.cls ≠ "java/lang/invoke/VarHandle") && decide ((parseMethodDescriptor y.desc).map (fun d => d.parameters.length) = some na)
def pm_host : String := "PlatformDoors"
/-- the callee: its code's word is there, its arguments fit -/
def pm_okc (MT : List pm_Mt) (mi na : Nat) (k : pm_Mt → Bool) : Bool := match MT[mi]? with
  | some M => pm_has (.code M.1 M.2.1 M.2.2.1 M.2.2.2.1) && pm_has (.initialized M.1.cls) && Nat.ble na M.2.2.1 && Nat.ble M.2.2.1 11 && k M
  | none => false
def pm_okv (own : String) (i na : Nat) (xc C : String) (y : MethodName) : Bool :=
  pm_desc y na && pm_has (.instanceMethod y) && (
    (decide (xc = y.cls) && decide (y.cls = C) && pm_has (.selects C y y) && (pm_has (.methodLink own i y) || pm_hasN (.methodLinkNest own i y pm_host))) ||
    (pm_has (.methodLink own i ⟨xc, y.name, y.desc⟩) && pm_has (.selects C ⟨xc, y.name, y.desc⟩ y) && (pm_has (.sameMethod xc y.cls y.name y.desc) ||
      (pm_has (.sameMethod xc xc y.name y.desc) && pm_hasN (.declares ⟨xc, y.name, y.desc⟩) && pm_desc ⟨xc, y.name, y.desc⟩ na))))
def pm_okp (MT : List pm_Mt) (own : String) (i na xn : Nat) : List Nat → Bool
  | ci :: mi :: t => Nat.blt ci 7 && pm_okc MT mi (na + 1) (fun M => pm_okv own i na (pm_cn xn) (pm_cn ci) M.1) && pm_okp MT own i na xn t
  | _ => true
def pm_oki (MT : List pm_Mt) (M : pm_Mt) (pc : Nat) (ins : Jvm.ClassFile.Instr) (ax : List Nat) : Bool := match ins with
  | .bipush n => decide ((Int8.ofInt n).toInt32 = Int32.ofInt n)
  | .sipush n => decide ((Int16.ofInt n).toInt32 = Int32.ofInt n)
  | .ldc i => pm_has (.constant M.1.cls i (pm_con ax))
  | .istore_n k => Nat.blt k.val M.2.2.1
  | .istore k => Nat.blt k M.2.2.1
  | .astore_n k => Nat.blt k.val M.2.2.1
  | .astore k => Nat.blt k M.2.2.1
  | .iinc k _ => Nat.blt k M.2.2.1
  | .ifCond _ off => decide ((pc : Int) + off = ((ax.headD 0 : Nat) : Int))
  | .if_icmp _ off => decide ((pc : Int) + off = ((ax.headD 0 : Nat) : Int))
  | .goto off => decide ((pc : Int) + off = ((ax.headD 0 : Nat) : Int))
  | .getfield i => (match ax with | j :: ty :: cis => cis.all (fun ci => pm_fok M.1.cls i ci j ty) | _ => true)
  | .putfield i => (match ax with | j :: ty :: _ :: cis => cis.all (fun ci => pm_fok M.1.cls i ci j ty && pm_fin M.1.cls (decide (M.1.name = "<init>")) ci j) | _ => true)
  | .new i => (match ax with | ci :: _ => Nat.blt ci 7 && pm_has (.classLink M.1.cls i (pm_cn ci)) && pm_has (.instantiable (pm_cn ci) (pm_fs0 ci).length) && pm_has (.initialized (pm_cn ci)) | _ => true)
  | .newarray a => (match ax with | [t] => (decide (a = .int) && Nat.beq t 0 && pm_has (.arrayClass .int)) || (decide (a = .boolean) && Nat.beq t 1 && pm_has (.arrayClass .boolean)) | _ => true)
  | .anewarray i => (match ax with | [t] => (Nat.beq t 2 && pm_has (.classLink M.1.cls i "PlatformDoors$Frame")) || (Nat.beq t 3 && pm_has (.classLink M.1.cls i "PlatformDoors$Leaf")) | _ => true)
  | .invokevirtual i => (match ax with | na :: xn :: ps => pm_okp MT M.1.cls i na xn ps | _ => true)
  | .invokespecial i => (match ax with
    | [] => pm_has (.methodLink M.1.cls i Lib.objectInit) && pm_has (.instanceMethod Lib.objectInit) && pm_has (.code Lib.objectInit ⟨#[0xb1]⟩ 1 none)
    | na :: mi :: _ => pm_okc MT mi (na + 1) (fun N => pm_desc N.1 na && decide (N.1.name = "<init>") && decide (N.2.2.2.1 = none) && pm_has (.instanceMethod N.1) && (pm_has (.methodLink M.1.cls i N.1) || pm_hasN (.methodLinkNest M.1.cls i N.1 pm_host)))
    | _ => true)
  | .invokestatic i => (match ax with
    | [0] => pm_has (.methodLink M.1.cls i Lib.Math.max.name) && pm_has (.static Lib.Math.max.name) && pm_has (.initialized "java/lang/Math") && pm_has (.code Lib.Math.max.name Lib.Math.max.code 2 (some .int))
    | [1] => pm_has (.methodLink M.1.cls i Lib.Math.min.name) && pm_has (.static Lib.Math.min.name) && pm_has (.initialized "java/lang/Math") && pm_has (.code Lib.Math.min.name Lib.Math.min.code 2 (some .int))
    | na :: mi :: _ => pm_okc MT mi na (fun N => pm_desc N.1 na && pm_has (.static N.1) && ((decide (N.1.cls = M.1.cls) && pm_has (.methodLink M.1.cls i N.1)) || pm_hasN (.methodLinkNest M.1.cls i N.1 pm_host)))
    | _ => true)
  | .tableswitch d lo hi offs => (match ax with
    | t0 :: ts => decide (lo = 0) && decide (hi + 1 = (ts.length : Int)) && decide ((pc : Int) + d = ((t0 : Nat) : Int)) && decide (offs.toList.map (fun o => (pc : Int) + o) = ts.map (fun (t : Nat) => (t : Int))) && Nat.blt ts.length 1000
    | _ => true)
  | _ => true
def pm_okb (MT : List pm_Mt) (M : pm_Mt) (row : pm_Row) : Bool := decide (decode M.2.1 row.1 = .ok (row.2.1, pm_len row.2.1 (row.2.2.1 - row.1))) && Nat.beq row.2.2.1 (row.1 + pm_len row.2.1 (row.2.2.1 - row.1)) && pm_oki MT M row.1 row.2.1 row.2.2.2
def pm_rko (ret : Option FieldType) (rk : Nat) : Bool := match ret, rk with
  | none, 0 => true
  | some .int, 1 => true
  | some .boolean, 2 => true
  | some (.object _), 3 => true
  | _, _ => false
def pm_okm (MT : List pm_Mt) (M : pm_Mt) : Bool := plainName M.1.cls && pm_rko M.2.2.2.1 M.2.2.2.2.2 && M.2.2.2.2.1.all (fun ch => ch.all (pm_okb MT M))
theorem pm_look_mem : ∀ (rows : List pm_Row) (pc : Nat) (a : Jvm.ClassFile.Instr × Nat × List Nat), pm_look rows pc = some a → (pc, a) ∈ rows
  | [], _, _, h => by cases h
  | (k, b) :: t, pc, a, h => by
    unfold pm_look at h
    cases hk : Nat.beq k pc with
    | true =>
      rw [hk] at h
      have e1 := pm_beq hk
      have e2 : b = a := Option.some.inj h
      subst e1; subst e2
      exact List.mem_cons_self
    | false =>
      rw [hk] at h
      exact List.mem_cons_of_mem _ (pm_look_mem t pc a h)
theorem pm_find_ok {MT : List pm_Mt} {M : pm_Mt} (h : pm_okm MT M = true) {pc nx : Nat} {ins : Jvm.ClassFile.Instr} {ax : List Nat} (hf : pm_find M.2.2.2.2.1 pc = some (ins, nx, ax)) : decode M.2.1 pc = .ok (ins, pm_len ins (nx - pc)) ∧ nx = pc + pm_len ins (nx - pc) ∧ pm_oki MT M pc ins ax = true := by
  simp only [pm_okm, Bool.and_eq_true] at h
  have hm := pm_look_mem _ _ _ hf
  have hch : (M.2.2.2.2.1.getD (pc / 16) []).all (pm_okb MT M) = true := by
    by_cases hl : pc / 16 < M.2.2.2.2.1.length
    · have h2 := List.all_eq_true.mp h.2 (M.2.2.2.2.1[pc / 16]) (List.getElem_mem hl)
      rw [List.getD_eq_getElem?_getD, List.getElem?_eq_getElem hl]
      exact h2
    · rw [List.getD_eq_getElem?_getD, List.getElem?_eq_none (Nat.not_lt.mp hl)]
      rfl
  have h3 := List.all_eq_true.mp hch _ hm
  simp only [pm_okb, Bool.and_eq_true, decide_eq_true_eq] at h3
  exact ⟨h3.1.1, pm_beq h3.1.2, h3.2⟩
end
section
/-! What my small machine does in one step, the model does: instructions that don't touch the memory. -/
abbrev pm_lvv (z b : Nat) (lv : pm_Lv) : List (Nat × Value) := lv.map (fun q => (q.1, pm_vl z b q.2))
theorem pm_lget_mem : ∀ (lv : pm_Lv) (i : Nat) (v : pm_V), pm_lget lv i = some v → (i, v) ∈ lv
  | [], _, _, h => by cases h
  | (k, w) :: t, i, v, h => by
    unfold pm_lget at h
    cases hk : Nat.beq k i with
    | true =>
      rw [hk] at h
      have e1 := pm_beq hk
      have e2 : w = v := Option.some.inj h
      subst e1; subst e2
      exact List.mem_cons_self
    | false =>
      rw [hk] at h
      exact List.mem_cons_of_mem _ (pm_lget_mem t i v h)
theorem pm_at {ls : Array Slot} {nL z b i : Nat} {lv : pm_Lv} {v : pm_V} (hl : lv_has ls nL (pm_lvv z b lv)) (h : pm_lget lv i = some v) : ls[i]? = some (.val (pm_vl z b v)) := hl.2.2 (i, pm_vl z b v) (List.mem_map.mpr ⟨(i, v), pm_lget_mem lv i v h, rfl⟩)
theorem pm_ldel_eq (z b i : Nat) : ∀ lv : pm_Lv, (pm_lvv z b lv).filter (fun q => !(q.1 == i) && !(q.1 + 1 == i && q.2.category == 2)) = pm_lvv z b (pm_ldel lv i)
  | [] => rfl
  | (k, w) :: t => by
    have ih := pm_ldel_eq z b i t
    have hc : ((pm_vl z b w).category == 2) = false := by rw [pm_cat]; rfl
    show List.filter _ ((k, pm_vl z b w) :: pm_lvv z b t) = pm_lvv z b (bif Nat.beq k i then pm_ldel t i else (k, w) :: pm_ldel t i)
    rw [List.filter_cons]
    cases hk : Nat.beq k i with
    | true =>
      have e1 := pm_beq hk
      subst e1
      simp only [beq_self_eq_true, Bool.not_true, Bool.false_and, cond_true]
      rw [if_neg (by decide)]
      exact ih
    | false =>
      have e1 : (k == i) = false := by
        cases hb : (k == i) with
        | false => rfl
        | true =>
          have := eq_of_beq hb
          subst this
          rw [Nat.beq_refl] at hk
          cases hk
      simp only [e1, hc, Bool.and_false, Bool.not_false, Bool.and_self, cond_false]
      rw [if_pos trivial, ih]
      rfl
theorem pm_lset_eq (z b i : Nat) (v : pm_V) (lv : pm_Lv) : (i, pm_vl z b v) :: (pm_lvv z b lv).filter (fun q => !(q.1 == i) && !(q.1 + 1 == i && q.2.category == 2)) = pm_lvv z b (pm_lset lv i v) := by
  rw [pm_ldel_eq]
  rfl
theorem pm_ld_spec {v : Option pm_V} {kg : pm_V → Prop} (h : pm_ld v kg False) : ∃ w, v = some w ∧ kg w ∧ ∀ z b, ∃ y, pm_vl z b w = .int y := by
  rcases v with _ | x | w | q
  · exact h.elim
  · exact ⟨_, rfl, h, fun _ _ => ⟨x, rfl⟩⟩
  · exact ⟨_, rfl, h, fun _ _ => ⟨_, rfl⟩⟩
  · exact h.elim
theorem pm_la_spec {v : Option pm_V} {kg : pm_V → Prop} (h : pm_la v kg False) : ∃ w, v = some w ∧ kg w ∧ ∀ z b, pm_vl z b w = .null ∨ ∃ y, pm_vl z b w = .ref y := by
  rcases v with _ | x | w | (_ | q) | q
  · exact h.elim
  · exact h.elim
  · exact h.elim
  · exact ⟨_, rfl, h, fun _ _ => Or.inl rfl⟩
  · exact ⟨_, rfl, h, fun _ _ => Or.inr ⟨_, rfl⟩⟩
  · exact ⟨_, rfl, h, fun _ _ => Or.inr ⟨_, rfl⟩⟩
theorem pm_si_spec {st : List pm_V} {kg : pm_V → List pm_V → Prop} (h : pm_si st kg False) : ∃ w st', st = w :: st' ∧ kg w st' ∧ ∀ z b, ∃ y, pm_vl z b w = .int y := by
  rcases st with _ | ⟨x | w | q, st⟩
  · exact h.elim
  · exact ⟨_, _, rfl, h, fun _ _ => ⟨x, rfl⟩⟩
  · exact ⟨_, _, rfl, h, fun _ _ => ⟨_, rfl⟩⟩
  · exact h.elim
theorem pm_sa_spec {st : List pm_V} {kg : pm_V → List pm_V → Prop} (h : pm_sa st kg False) : ∃ w st', st = w :: st' ∧ kg w st' ∧ ∀ z b, pm_vl z b w = .null ∨ ∃ y, pm_vl z b w = .ref y := by
  rcases st with _ | ⟨x | w | (_ | q) | q, st⟩
  · exact h.elim
  · exact h.elim
  · exact h.elim
  · exact ⟨_, _, rfl, h, fun _ _ => Or.inl rfl⟩
  · exact ⟨_, _, rfl, h, fun _ _ => Or.inr ⟨_, rfl⟩⟩
  · exact ⟨_, _, rfl, h, fun _ _ => Or.inr ⟨_, rfl⟩⟩
theorem pm_op2_spec {st : List pm_V} {kg : Int32 → Int32 → List pm_V → Prop} (h : pm_op2 st kg False) : ∃ x y st', st = .inl y :: .inl x :: st' ∧ kg x y st' := by
  rcases st with _ | ⟨y | q, _ | ⟨x | q2, st⟩⟩
  · exact h.elim
  · exact h.elim
  · exact ⟨_, _, _, rfl, h⟩
  · exact h.elim
  · exact h.elim
  · exact h.elim
  · exact h.elim
theorem pm_obj_spec {n : Nat} {st : List pm_V} {kg : Nat → Nat → List pm_V → Prop} (h : pm_obj n st kg False) : ∃ k ci st', st = .inr (.inr (.inl (some k))) :: st' ∧ pm_cls n k = some ci ∧ kg k ci st' := by
  rcases st with _ | ⟨x | w | (_ | k) | q, st⟩
  · exact h.elim
  · exact h.elim
  · exact h.elim
  · exact h.elim
  · change (match pm_cls n k with | some ci => kg k ci st | none => False) at h
    cases hc : pm_cls n k with
    | none => rw [hc] at h; exact h.elim
    | some ci => rw [hc] at h; exact ⟨k, ci, st, rfl, hc, h⟩
  · exact h.elim
def pm_E (G : pm_G) (sc : pm_Sc) (M : pm_Mt) (d : Nat) (p : Program) (R : Room) (s : State) (m : MethodId) (args : Array Value) (meth : Method) (c : Code) : Prop :=
  p.tables.exec = Jvm.exec ∧ c.code = M.2.1 ∧ c.maxLocals = M.2.2.1 ∧ s.vm.findClass M.1.cls = some m.cls ∧ (∀ w ∈ pm_ga, w.before args s = true) ∧ pm_K G s ∧ pm_X G sc s s.heap ∧ (M.1.name = "<init>" → meth.name = "<init>") ∧ d + 1 ≤ R.frames ∧ 30 * (d + 1) ≤ R.locals
def pm_PW (p : Program) (l : Launch) (e : Env) (R : Room) (s : State) (m : MethodId) (args : Array Value) (below : List Frame) (meth : Method) (c : Code) (Q : State → Prop) (G : pm_G) (nL n0 : Nat) (pc : Nat) (lv : pm_Lv) (st : List pm_V) (u : pm_S) : Prop :=
  ∀ (H : Heap) (locs : List Loc) (ls : Array Slot), lv_has ls nL (pm_lvv G.2.2.1 G.2.2.2 lv) → pm_H G u H → va_S (pm_A G) s.heap H locs → n0 ≤ u.1 → W p l e R s m args below meth c H locs (u.1 - n0) (pm_sl u.1 - pm_sl n0) Q (F0 m pc ls (st.map (pm_vl G.2.2.1 G.2.2.2)))
def pm_ri (rk : Nat) : Jvm.ClassFile.Instr := match rk with
  | 0 => .return_
  | 1 => .ireturn
  | 2 => .ireturn
  | _ => .areturn
def pm_PE (p : Program) (l : Launch) (e : Env) (R : Room) (s : State) (m : MethodId) (args : Array Value) (below : List Frame) (meth : Method) (c : Code) (Q : State → Prop) (G : pm_G) (cc : ByteArray) (rk n0 : Nat) (r : pm_Rs) : Prop :=
  ∀ (H : Heap) (locs : List Loc) (ls : Array Slot) (pc : Nat), pm_H G r.2 H → va_S (pm_A G) s.heap H locs → n0 ≤ r.2.1 → decode cc pc = .ok (pm_ri rk, 1) → W p l e R s m args below meth c H locs (r.2.1 - n0) (pm_sl r.2.1 - pm_sl n0) Q (F0 m pc ls (r.1.map (pm_vl G.2.2.1 G.2.2.2)).toList)
section PMW
variable {p : Program} {l : Launch} {e : Env} {R : Room} {s : State} {m : MethodId} {args : Array Value} {below : List Frame} {meth : Method} {c : Code} {Q : State → Prop}
variable {G : pm_G} {sc : pm_Sc} {M : pm_Mt} {d n0 nf : Nat} {MT : List pm_Mt} {cal : Nat → List pm_V → pm_S → Option pm_Rs} {pc nx : Nat} {ax : List Nat} {lv : pm_Lv} {st : List pm_V} {u : pm_S}
/-- what goes on behind a step -/
abbrev pm_kk (p : Program) (l : Launch) (e : Env) (R : Room) (s : State) (m : MethodId) (args : Array Value) (below : List Frame) (meth : Method) (c : Code) (Q : State → Prop) (G : pm_G) (nL n0 nf : Nat) : Nat → pm_Lv → List pm_V → pm_S → Prop := fun pc lv st u => u.1 ≤ nf ∧ pm_PW p l e R s m args below meth c Q G nL n0 pc lv st u
theorem pm_s_push {len : Nat} {v : Int32} (row : ∀ {H : Heap} {locs : List Loc} {cells slots : Nat} {ls : Array Slot} {rest : List Value}, W p l e R s m args below meth c H locs cells slots Q (F0 m (pc + len) ls (.int v :: rest)) → W p l e R s m args below meth c H locs cells slots Q (F0 m pc ls rest))
    (h : pm_kk p l e R s m args below meth c Q G M.2.2.1 n0 nf (pc + len) lv (.inl v :: st) u) : pm_PW p l e R s m args below meth c Q G M.2.2.1 n0 pc lv st u := fun H locs ls hl hH hS hn => row (h.2 H locs ls hl hH hS hn)
theorem pm_s_br {cd : Jvm.ClassFile.Cond} {off : Int} {tgt : Nat} {x : Int32} (E : pm_E G sc M d p R s m args meth c) (hd : decode M.2.1 pc = .ok (.ifCond cd off, 3)) (ht : (pc : Int) + off = (tgt : Int))
    (h : pm_br cd x (pm_kk p l e R s m args below meth c Q G M.2.2.1 n0 nf tgt lv st u) (pm_kk p l e R s m args below meth c Q G M.2.2.1 n0 nf (pc + 3) lv st u)) {v : pm_V} (hv : pm_vl G.2.2.1 G.2.2.2 v = .int x) : pm_PW p l e R s m args below meth c Q G M.2.2.1 n0 pc lv (v :: st) u := by
  obtain ⟨hx, hb, -⟩ := E
  intro H locs ls hl hH hS hn
  rw [List.map_cons, hv]
  cases cd
  · refine lv_if_eq hx hb hd ht (fun q => ?_) (fun q => ?_)
    · exact (by rw [show pm_br .eq x _ _ = _ from if_pos q] at h; exact h.2 H locs ls hl hH hS hn)
    · exact (by rw [show pm_br .eq x _ _ = _ from if_neg q] at h; exact h.2 H locs ls hl hH hS hn)
  · refine lv_if_ne hx hb hd ht (fun q => ?_) (fun q => ?_)
    · exact (by rw [show pm_br .ne x _ _ = _ from if_neg q] at h; exact h.2 H locs ls hl hH hS hn)
    · exact (by rw [show pm_br .ne x _ _ = _ from if_pos q] at h; exact h.2 H locs ls hl hH hS hn)
  · refine lv_if_lt hx hb hd ht (fun q => ?_) (fun q => ?_)
    · exact (by rw [show pm_br .lt x _ _ = _ from if_pos q] at h; exact h.2 H locs ls hl hH hS hn)
    · exact (by rw [show pm_br .lt x _ _ = _ from if_neg q] at h; exact h.2 H locs ls hl hH hS hn)
  · refine lv_if_ge hx hb hd ht (fun q => ?_) (fun q => ?_)
    · exact (by rw [show pm_br .ge x _ _ = _ from if_pos q] at h; exact h.2 H locs ls hl hH hS hn)
    · exact (by rw [show pm_br .ge x _ _ = _ from if_neg q] at h; exact h.2 H locs ls hl hH hS hn)
  · refine lv_if_gt hx hb hd ht (fun q => ?_) (fun q => ?_)
    · exact (by rw [show pm_br .gt x _ _ = _ from if_pos q] at h; exact h.2 H locs ls hl hH hS hn)
    · exact (by rw [show pm_br .gt x _ _ = _ from if_neg q] at h; exact h.2 H locs ls hl hH hS hn)
  · refine lv_if_le hx hb hd ht (fun q => ?_) (fun q => ?_)
    · exact (by rw [show pm_br .le x _ _ = _ from if_pos q] at h; exact h.2 H locs ls hl hH hS hn)
    · exact (by rw [show pm_br .le x _ _ = _ from if_neg q] at h; exact h.2 H locs ls hl hH hS hn)
theorem pm_s_br2 {cd : Jvm.ClassFile.Cond} {off : Int} {tgt : Nat} {x y : Int32} (E : pm_E G sc M d p R s m args meth c) (hd : decode M.2.1 pc = .ok (.if_icmp cd off, 3)) (ht : (pc : Int) + off = (tgt : Int))
    (h : pm_br2 cd x y (pm_kk p l e R s m args below meth c Q G M.2.2.1 n0 nf tgt lv st u) (pm_kk p l e R s m args below meth c Q G M.2.2.1 n0 nf (pc + 3) lv st u)) {v w : pm_V} (hv : pm_vl G.2.2.1 G.2.2.2 v = .int x) (hw : pm_vl G.2.2.1 G.2.2.2 w = .int y) : pm_PW p l e R s m args below meth c Q G M.2.2.1 n0 pc lv (w :: v :: st) u := by
  obtain ⟨hx, hb, -⟩ := E
  intro H locs ls hl hH hS hn
  rw [List.map_cons, List.map_cons, hv, hw]
  cases cd
  · refine lv_icmp_eq hx hb hd ht (fun q => ?_) (fun q => ?_)
    · exact (by rw [show pm_br2 .eq x y _ _ = _ from if_pos q] at h; exact h.2 H locs ls hl hH hS hn)
    · exact (by rw [show pm_br2 .eq x y _ _ = _ from if_neg q] at h; exact h.2 H locs ls hl hH hS hn)
  · refine lv_icmp_ne hx hb hd ht (fun q => ?_) (fun q => ?_)
    · exact (by rw [show pm_br2 .ne x y _ _ = _ from if_neg q] at h; exact h.2 H locs ls hl hH hS hn)
    · exact (by rw [show pm_br2 .ne x y _ _ = _ from if_pos q] at h; exact h.2 H locs ls hl hH hS hn)
  · refine lv_icmp_lt hx hb hd ht (fun q => ?_) (fun q => ?_)
    · exact (by rw [show pm_br2 .lt x y _ _ = _ from if_pos q] at h; exact h.2 H locs ls hl hH hS hn)
    · exact (by rw [show pm_br2 .lt x y _ _ = _ from if_neg q] at h; exact h.2 H locs ls hl hH hS hn)
  · refine lv_icmp_ge hx hb hd ht (fun q => ?_) (fun q => ?_)
    · exact (by rw [show pm_br2 .ge x y _ _ = _ from if_pos q] at h; exact h.2 H locs ls hl hH hS hn)
    · exact (by rw [show pm_br2 .ge x y _ _ = _ from if_neg q] at h; exact h.2 H locs ls hl hH hS hn)
  · refine lv_icmp_gt hx hb hd ht (fun q => ?_) (fun q => ?_)
    · exact (by rw [show pm_br2 .gt x y _ _ = _ from if_pos q] at h; exact h.2 H locs ls hl hH hS hn)
    · exact (by rw [show pm_br2 .gt x y _ _ = _ from if_neg q] at h; exact h.2 H locs ls hl hH hS hn)
  · refine lv_icmp_le hx hb hd ht (fun q => ?_) (fun q => ?_)
    · exact (by rw [show pm_br2 .le x y _ _ = _ from if_pos q] at h; exact h.2 H locs ls hl hH hS hn)
    · exact (by rw [show pm_br2 .le x y _ _ = _ from if_neg q] at h; exact h.2 H locs ls hl hH hS hn)
/-- a branch on a boolean is one on 0 or 1 -/
theorem pm_brb_br {cd : Jvm.ClassFile.Cond} {x : Bool} {A B : Prop} (h : pm_brb cd x A B False) : pm_br cd (bif x then 1 else 0) A B := by
  cases cd <;> cases x <;> first | exact h.elim | exact h | (simp [pm_brb] at h; simp [pm_br]; exact h)
theorem pm_brb2_br {cd : Jvm.ClassFile.Cond} {x y : Bool} {A B : Prop} (h : pm_brb2 cd x y A B False) : pm_br2 cd (bif x then 1 else 0) (bif y then 1 else 0) A B := by
  cases cd <;> cases x <;> cases y <;> first | exact h.elim | exact h | (simp [pm_brb2] at h; simp [pm_br2]; exact h)
theorem pm_sw_spec {x : Int32} {K : Nat → Prop} {t0 : Nat} : ∀ (ts : List Nat) (v : Nat), v + ts.length < 1000 → pm_sw x K t0 ts v → ((∃ i t, ts[i]? = some t ∧ x = Int32.ofNat (v + i) ∧ K t) ∨ ((∀ i, i < ts.length → x ≠ Int32.ofNat (v + i)) ∧ K t0))
  | [], v, _, h => Or.inr ⟨fun i hi => absurd hi (Nat.not_lt_zero i), h⟩
  | t :: ts, v, hv, h => by
    have hv' : v + 1 + ts.length < 1000 := by simp at hv; omega
    by_cases q : x = Int32.ofNat v
    · rw [show pm_sw x K t0 (t :: ts) v = _ from if_pos q] at h
      exact Or.inl ⟨0, t, rfl, q, h⟩
    · rw [show pm_sw x K t0 (t :: ts) v = _ from if_neg q] at h
      rcases pm_sw_spec ts (v + 1) hv' h with ⟨i, t', h1, h2, h3⟩ | ⟨h1, h2⟩
      · exact Or.inl ⟨i + 1, t', h1, by rw [h2]; congr 1; omega, h3⟩
      · refine Or.inr ⟨fun i hi => ?_, h2⟩
        rcases i with _ | i
        · exact q
        · have := h1 i (by simp at hi; omega)
          rw [show v + (i + 1) = v + 1 + i by omega]
          exact this
def pm_mem (ins : Jvm.ClassFile.Instr) : Bool := match ins with
  | .getfield _ => true
  | .putfield _ => true
  | .iaload => true
  | .baload => true
  | .aaload => true
  | .iastore => true
  | .bastore => true
  | .aastore => true
  | .arraylength => true
  | .new _ => true
  | .newarray _ => true
  | .anewarray _ => true
  | .invokevirtual _ => true
  | .invokespecial _ => true
  | .invokestatic _ => true
  | _ => false
/-- the instructions that don't touch the memory -/
theorem pm_s_plain {ins : Jvm.ClassFile.Instr} {rk : Nat} (E : pm_E G sc M d p R s m args meth c) (hd : decode M.2.1 pc = .ok (ins, pm_len ins (nx - pc))) (hnx : nx = pc + pm_len ins (nx - pc)) (ho : pm_oki MT M pc ins ax = true) (hrk : M.2.2.2.2.2 = rk) (hu : u.1 ≤ nf)
    (hp : pm_mem ins = false)
    (h : pm_do cal sc rk ins nx ax lv st u (pm_kk p l e R s m args below meth c Q G M.2.2.1 n0 nf) (pm_PE p l e R s m args below meth c Q G M.2.1 rk n0) False) : pm_PW p l e R s m args below meth c Q G M.2.2.1 n0 pc lv st u := by
  have E0 := E
  obtain ⟨hx, hb, -, hown, hga, -⟩ := E
  cases ins
  case iconst n => simp only [pm_len] at hnx hd; subst hnx; exact pm_s_push (fun k => lv_iconst hx hb hd rfl k) h
  case bipush n => simp only [pm_len] at hnx hd; subst hnx; exact pm_s_push (fun k => lv_bipush hx hb hd (of_decide_eq_true ho) k) h
  case sipush n => simp only [pm_len] at hnx hd; subst hnx; exact pm_s_push (fun k => lv_sipush hx hb hd (of_decide_eq_true ho) k) h
  case ldc i => simp only [pm_len] at hnx hd; subst hnx; exact pm_s_push (fun k => lv_ldc hx hb hown (hga _ (pm_in ho)) hd k) h
  case iload_n k =>
    simp only [pm_len] at hnx hd; subst hnx
    obtain ⟨w, hw, hk, hy⟩ := pm_ld_spec (by simpa only [pm_do] using h)
    obtain ⟨y, hy⟩ := hy G.2.2.1 G.2.2.2
    intro H locs ls hl hH hS hn
    have k1 := hk.2 H locs ls hl hH hS hn
    rw [List.map_cons, hy] at k1
    exact lv_iload_n hx hb hd rfl (by rw [pm_at hl hw, hy]) k1
  case iload i =>
    simp only [pm_len] at hnx hd; subst hnx
    obtain ⟨w, hw, hk, hy⟩ := pm_ld_spec (by simpa only [pm_do] using h)
    obtain ⟨y, hy⟩ := hy G.2.2.1 G.2.2.2
    intro H locs ls hl hH hS hn
    have k1 := hk.2 H locs ls hl hH hS hn
    rw [List.map_cons, hy] at k1
    exact lv_iload hx hb hd (by rw [pm_at hl hw, hy]) k1
  case aload_n k =>
    simp only [pm_len] at hnx hd; subst hnx
    obtain ⟨w, hw, hk, hy⟩ := pm_la_spec (by simpa only [pm_do] using h)
    intro H locs ls hl hH hS hn
    have k1 := hk.2 H locs ls hl hH hS hn
    rcases hy G.2.2.1 G.2.2.2 with hy | ⟨y, hy⟩
    · rw [List.map_cons, hy] at k1
      exact lv_aload_nN hx hb hd rfl (by rw [pm_at hl hw, hy]) k1
    · rw [List.map_cons, hy] at k1
      exact lv_aload_n hx hb hd rfl (by rw [pm_at hl hw, hy]) k1
  case aload i =>
    simp only [pm_len] at hnx hd; subst hnx
    obtain ⟨w, hw, hk, hy⟩ := pm_la_spec (by simpa only [pm_do] using h)
    intro H locs ls hl hH hS hn
    have k1 := hk.2 H locs ls hl hH hS hn
    rcases hy G.2.2.1 G.2.2.2 with hy | ⟨y, hy⟩
    · rw [List.map_cons, hy] at k1
      exact lv_aloadN hx hb hd (by rw [pm_at hl hw, hy]) k1
    · rw [List.map_cons, hy] at k1
      exact lv_aload hx hb hd (by rw [pm_at hl hw, hy]) k1
  case istore_n k =>
    simp only [pm_len] at hnx hd; subst hnx
    obtain ⟨w, st', rfl, hk, hy⟩ := pm_si_spec (by simpa only [pm_do] using h)
    obtain ⟨y, hy⟩ := hy G.2.2.1 G.2.2.2
    intro H locs ls hl hH hS hn
    rw [List.map_cons, hy]
    exact lv_istore_n hx hb hd rfl hl (pm_blt ho) (by rw [← hy]; exact pm_lset_eq _ _ _ _ _) (fun ls' hl' => hk.2 H locs ls' hl' hH hS hn)
  case istore i =>
    simp only [pm_len] at hnx hd; subst hnx
    obtain ⟨w, st', rfl, hk, hy⟩ := pm_si_spec (by simpa only [pm_do] using h)
    obtain ⟨y, hy⟩ := hy G.2.2.1 G.2.2.2
    intro H locs ls hl hH hS hn
    rw [List.map_cons, hy]
    exact lv_istore hx hb hd hl (pm_blt ho) (by rw [← hy]; exact pm_lset_eq _ _ _ _ _) (fun ls' hl' => hk.2 H locs ls' hl' hH hS hn)
  case astore_n k =>
    simp only [pm_len] at hnx hd; subst hnx
    obtain ⟨w, st', rfl, hk, hy⟩ := pm_sa_spec (by simpa only [pm_do] using h)
    intro H locs ls hl hH hS hn
    rcases hy G.2.2.1 G.2.2.2 with hy | ⟨y, hy⟩
    · rw [List.map_cons, hy]
      exact lv_astore_nN hx hb hd rfl hl (pm_blt ho) (by rw [← hy]; exact pm_lset_eq _ _ _ _ _) (fun ls' hl' => hk.2 H locs ls' hl' hH hS hn)
    · rw [List.map_cons, hy]
      exact lv_astore_n hx hb hd rfl hl (pm_blt ho) (by rw [← hy]; exact pm_lset_eq _ _ _ _ _) (fun ls' hl' => hk.2 H locs ls' hl' hH hS hn)
  case astore i =>
    simp only [pm_len] at hnx hd; subst hnx
    obtain ⟨w, st', rfl, hk, hy⟩ := pm_sa_spec (by simpa only [pm_do] using h)
    intro H locs ls hl hH hS hn
    rcases hy G.2.2.1 G.2.2.2 with hy | ⟨y, hy⟩
    · rw [List.map_cons, hy]
      exact lv_astoreN hx hb hd hl (pm_blt ho) (by rw [← hy]; exact pm_lset_eq _ _ _ _ _) (fun ls' hl' => hk.2 H locs ls' hl' hH hS hn)
    · rw [List.map_cons, hy]
      exact lv_astore hx hb hd hl (pm_blt ho) (by rw [← hy]; exact pm_lset_eq _ _ _ _ _) (fun ls' hl' => hk.2 H locs ls' hl' hH hS hn)
  case iinc i n =>
    simp only [pm_len] at hnx hd; subst hnx
    change (match pm_lget lv i with | some (.inl x) => pm_kk p l e R s m args below meth c Q G M.2.2.1 n0 nf (pc + 3) (pm_lset lv i (.inl (x + Int32.ofInt n))) st u | _ => False) at h
    cases hw : pm_lget lv i with
    | none => rw [hw] at h; exact h.elim
    | some w =>
      rw [hw] at h
      rcases w with x | w
      · intro H locs ls hl hH hS hn
        obtain ⟨k, hk⟩ := List.getElem?_of_mem (show (i, Value.int x) ∈ pm_lvv G.2.2.1 G.2.2.2 lv from List.mem_map.mpr ⟨(i, .inl x), pm_lget_mem lv i _ hw, rfl⟩)
        exact lv_iinc hx hb hd hl hk rfl (pm_blt ho) (pm_lset_eq _ _ i (.inl (x + Int32.ofInt n)) lv) (fun ls' hl' => h.2 H locs ls' hl' hH hS hn)
      · exact h.elim
  case iadd => simp only [pm_len] at hnx hd; subst hnx; obtain ⟨x, y, st', rfl, hk⟩ := pm_op2_spec h; exact fun H locs ls hl hH hS hn => lv_iadd hx hb hd (hk.2 H locs ls hl hH hS hn)
  case isub => simp only [pm_len] at hnx hd; subst hnx; obtain ⟨x, y, st', rfl, hk⟩ := pm_op2_spec h; exact fun H locs ls hl hH hS hn => lv_isub hx hb hd (hk.2 H locs ls hl hH hS hn)
  case imul => simp only [pm_len] at hnx hd; subst hnx; obtain ⟨x, y, st', rfl, hk⟩ := pm_op2_spec h; exact fun H locs ls hl hH hS hn => lv_imul hx hb hd (hk.2 H locs ls hl hH hS hn)
  case iand => simp only [pm_len] at hnx hd; subst hnx; obtain ⟨x, y, st', rfl, hk⟩ := pm_op2_spec h; exact fun H locs ls hl hH hS hn => lv_iand hx hb hd (hk.2 H locs ls hl hH hS hn)
  case ior => simp only [pm_len] at hnx hd; subst hnx; obtain ⟨x, y, st', rfl, hk⟩ := pm_op2_spec h; exact fun H locs ls hl hH hS hn => lv_ior hx hb hd (hk.2 H locs ls hl hH hS hn)
  case ishl => simp only [pm_len] at hnx hd; subst hnx; obtain ⟨x, y, st', rfl, hk⟩ := pm_op2_spec h; exact fun H locs ls hl hH hS hn => lv_ishl hx hb hd (hk.2 H locs ls hl hH hS hn)
  case ishr => simp only [pm_len] at hnx hd; subst hnx; obtain ⟨x, y, st', rfl, hk⟩ := pm_op2_spec h; exact fun H locs ls hl hH hS hn => lv_ishr hx hb hd (hk.2 H locs ls hl hH hS hn)
  case idiv =>
    simp only [pm_len] at hnx hd; subst hnx
    obtain ⟨x, y, st', rfl, hk⟩ := pm_op2_spec h
    by_cases hy : y = 0
    · rw [if_pos hy] at hk; exact hk.elim
    · rw [if_neg hy] at hk; exact fun H locs ls hl hH hS hn => lv_idiv hx hb hd hy (hk.2 H locs ls hl hH hS hn)
  case irem =>
    simp only [pm_len] at hnx hd; subst hnx
    obtain ⟨x, y, st', rfl, hk⟩ := pm_op2_spec h
    by_cases hy : y = 0
    · rw [if_pos hy] at hk; exact hk.elim
    · rw [if_neg hy] at hk; exact fun H locs ls hl hH hS hn => lv_irem hx hb hd hy (hk.2 H locs ls hl hH hS hn)
  case dup =>
    simp only [pm_len] at hnx hd; subst hnx
    rcases st with _ | ⟨v, st⟩
    · exact h.elim
    · exact fun H locs ls hl hH hS hn => lv_dup hx hb hd (pm_cat _ _ v) (h.2 H locs ls hl hH hS hn)
  case dup2 =>
    simp only [pm_len] at hnx hd; subst hnx
    rcases st with _ | ⟨v, _ | ⟨w, st⟩⟩
    · exact h.elim
    · exact h.elim
    · exact fun H locs ls hl hH hS hn => lv_dup2_11 hx hb hd (pm_cat _ _ v) (pm_cat _ _ w) (h.2 H locs ls hl hH hS hn)
  case goto off => exact fun H locs ls hl hH hS hn => lv_goto hx hb hd (of_decide_eq_true ho) (h.2 H locs ls hl hH hS hn)
  case ifCond cd off =>
    simp only [pm_len] at hnx hd; subst hnx
    rcases st with _ | ⟨x | w | q, st⟩
    · exact h.elim
    · exact pm_s_br E0 hd (of_decide_eq_true ho) h rfl
    · exact pm_s_br E0 hd (of_decide_eq_true ho) (pm_brb_br h) rfl
    · exact h.elim
  case if_icmp cd off =>
    simp only [pm_len] at hnx hd; subst hnx
    rcases st with _ | ⟨y | y | q, _ | ⟨x | x | q2, st⟩⟩
    · exact h.elim
    · exact h.elim
    · exact pm_s_br2 E0 hd (of_decide_eq_true ho) h rfl rfl
    · exact h.elim
    · exact h.elim
    · exact h.elim
    · exact h.elim
    · exact pm_s_br2 E0 hd (of_decide_eq_true ho) (pm_brb2_br h) rfl rfl
    · exact h.elim
    · exact h.elim
    · exact h.elim
    · exact h.elim
    · exact h.elim
  case tableswitch dd lo hi offs =>
    rcases ax with _ | ⟨t0, ts⟩
    · exact h.elim
    · rcases st with _ | ⟨x | w, st⟩
      · exact h.elim
      · simp only [pm_oki, Bool.and_eq_true, decide_eq_true_eq] at ho
        obtain ⟨⟨⟨⟨hlo, hhi⟩, hdf⟩, hof⟩, hts⟩ := ho
        have hts' := pm_blt hts
        intro H locs ls hl hH hS hn
        rcases pm_sw_spec ts 0 (by omega) h with ⟨i, t, h1, h2, h3⟩ | ⟨h1, h2⟩
        · have hi : i < ts.length := (List.getElem?_eq_some_iff.mp h1).1
          have hxi : x.toInt = (i : Int) := by rw [h2, Nat.zero_add]; exact nI_toInt (by omega)
          have ho2 : (offs.toList.map (fun o => (pc : Int) + o))[i]? = some (t : Int) := by rw [hof, List.getElem?_map, h1]; rfl
          rw [List.getElem?_map] at ho2
          cases hq : offs.toList[i]? with
          | none => rw [hq] at ho2; cases ho2
          | some o =>
            rw [hq] at ho2
            refine lv_tableIn hx hb hd (by rw [hxi, hlo]; omega) (by rw [hxi]; omega) (off := o) ?_ (Option.some.inj ho2) (h3.2 H locs ls hl hH hS hn)
            rw [hxi, hlo, show ((i : Int) - 0).toNat = i by omega, ← Array.getElem?_toList]
            exact hq
        · refine lv_tableOut hx hb hd ?_ hdf (h2.2 H locs ls hl hH hS hn)
          by_cases hneg : x.toInt < 0
          · exact Or.inl (by rw [hlo]; exact hneg)
          · refine Or.inr ?_
            by_cases hbig : hi < x.toInt
            · exact hbig
            · exfalso
              have := h1 x.toInt.toNat (by omega)
              apply this
              rw [Nat.zero_add]
              apply Int32.toInt_inj.mp
              rw [show (Int32.ofNat x.toInt.toNat).toInt = (x.toInt.toNat : Int) from nI_toInt (by omega)]
              omega
      · exact h.elim
  case ireturn =>
    have hd1 : decode M.2.1 pc = .ok (.ireturn, 1) := hd
    rcases rk with _ | _ | _ | rk
    · exact h.elim
    · rcases st with _ | ⟨x | w, _ | ⟨v2, st⟩⟩
      · exact h.elim
      · exact fun H locs ls hl hH hS hn => h H locs ls pc hH hS hn hd1
      · exact h.elim
      · exact h.elim
      · exact h.elim
    · rcases st with _ | ⟨x | w | q, _ | ⟨v2, st⟩⟩
      · exact h.elim
      · change (if x = 0 then _ else if x = 1 then _ else False) at h
        intro H locs ls hl hH hS hn
        by_cases h0 : x = 0
        · rw [if_pos h0] at h
          subst h0
          exact h H locs ls pc hH hS hn hd1
        · rw [if_neg h0] at h
          by_cases h1 : x = 1
          · rw [if_pos h1] at h
            subst h1
            exact h H locs ls pc hH hS hn hd1
          · rw [if_neg h1] at h
            exact h.elim
      · exact h.elim
      · exact fun H locs ls hl hH hS hn => h H locs ls pc hH hS hn hd1
      · exact h.elim
      · exact h.elim
      · exact h.elim
    · exact h.elim
  case areturn =>
    rcases rk with _ | _ | _ | _ | rk
    · exact h.elim
    · exact h.elim
    · exact h.elim
    · rcases st with _ | ⟨x | w | q | q, _ | ⟨v2, st⟩⟩
      · exact h.elim
      · exact h.elim
      · exact h.elim
      · exact h.elim
      · exact h.elim
      · exact fun H locs ls hl hH hS hn => h H locs ls pc hH hS hn hd
      · exact h.elim
      · exact h.elim
      · exact h.elim
    · exact h.elim
  case return_ =>
    rcases rk with _ | rk
    · rcases st with _ | ⟨v, st⟩
      · exact fun H locs ls hl hH hS hn => h H locs ls pc hH hS hn hd
      · exact h.elim
    · exact h.elim
  all_goals first | exact h.elim | cases hp
end PMW
end

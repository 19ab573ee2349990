/-! A small machine of my own over PLACES (see NOTES.md, section H): ints, booleans and references in a memory of places; one step in the style of continuations, so that a branch on a number that isn't known stands outside. Nothing here speaks of the model; part 12 shows that what this machine does, the model does. -/
abbrev pm_V : Type := Int32 ⊕ (Bool ⊕ (Option Nat ⊕ Unit))
abbrev pm_S : Type := Nat × (Nat → Nat → Int32) × (Nat → Nat → Bool) × (Nat → Nat → Option Nat)
abbrev pm_Rs : Type := Option pm_V × pm_S
abbrev pm_Lv : Type := List (Nat × pm_V)
abbrev pm_Row : Type := Nat × Jvm.ClassFile.Instr × Nat × List Nat
abbrev pm_Cd : Type := List (List pm_Row)
abbrev pm_Kd : Type := Nat ⊕ (Nat × Nat)
abbrev pm_Sc : Type := Nat × (Nat → Int32)
def pm_up {α : Type} (x : Nat → Nat → α) (k j : Nat) (v : α) : Nat → Nat → α := fun a b => bif Nat.beq a k && Nat.beq b j then v else x a b
def pm_fz {α : Type} (x : Nat → Nat → α) (k : Nat) (v : α) : Nat → Nat → α := fun a b => bif Nat.beq a k then v else x a b
def pm_lget : pm_Lv → Nat → Option pm_V
  | [], _ => none
  | (k, v) :: t, i => bif Nat.beq k i then some v else pm_lget t i
def pm_ldel : pm_Lv → Nat → pm_Lv
  | [], _ => []
  | (k, v) :: t, i => bif Nat.beq k i then pm_ldel t i else (k, v) :: pm_ldel t i
def pm_lset (lv : pm_Lv) (i : Nat) (v : pm_V) : pm_Lv := (i, v) :: pm_ldel lv i
def pm_look : List pm_Row → Nat → Option (Jvm.ClassFile.Instr × Nat × List Nat)
  | [], _ => none
  | (k, a) :: t, n => bif Nat.beq k n then some a else pm_look t n
def pm_find (cd : pm_Cd) (pc : Nat) : Option (Jvm.ClassFile.Instr × Nat × List Nat) := pm_look (cd.getD (pc / 16) []) pc
/-- what each place is: an object's kind by number, or a kind of array (0 int, 1 boolean, 2 Frame, 3 Leaf) and its length; in the order of making -/
def pm_kds : List (List pm_Kd) := [
  [.inl 0, .inl 3, .inr (2, 12), .inl 1, .inl 1, .inl 1, .inl 1, .inl 1],
  [.inl 1, .inl 1, .inl 1, .inl 1, .inl 1, .inl 1, .inl 1, .inl 3],
  [.inr (2, 12), .inl 1, .inl 1, .inl 1, .inl 1, .inl 1, .inl 1, .inl 1],
  [.inl 1, .inl 1, .inl 1, .inl 1, .inl 1, .inl 5, .inr (3, 8), .inl 1],
  [.inl 2, .inr (0, 2), .inl 2, .inr (0, 2), .inl 2, .inr (0, 2), .inl 2, .inr (0, 2)],
  [.inl 2, .inr (0, 2), .inl 2, .inr (0, 2), .inl 2, .inr (0, 2), .inl 2, .inr (0, 2)],
  [.inl 4, .inr (3, 8), .inl 1, .inl 2, .inr (0, 2), .inl 2, .inr (0, 2), .inl 2],
  [.inr (0, 2), .inl 2, .inr (0, 2), .inl 2, .inr (0, 2), .inl 2, .inr (0, 2), .inl 2],
  [.inr (0, 2), .inl 2, .inr (0, 2), .inl 6, .inr (0, 2), .inr (0, 2), .inr (0, 2), .inr (0, 2)],
  [.inr (1, 2), .inr (0, 12), .inr (0, 2), .inr (0, 144), .inr (0, 16), .inr (1, 16), .inr (1, 16), .inr (1, 16)],
  [.inr (1, 16), .inr (0, 16), .inr (0, 16), .inr (0, 16), .inr (0, 32)]]
def pm_kd (k : Nat) : Option pm_Kd := (pm_kds.getD (k / 8) [])[k % 8]?
/-- is i an index below len? -/
def pm_ib (i : Int32) (len : Nat) : Bool := !(decide (i < 0)) && Nat.blt i.toNatClampNeg len
/-- a switch from the case v on -/
def pm_sw {α : Type} (x : Int32) (kg : Nat → α) (dflt : Nat) : List Nat → Nat → α
  | [], _ => kg dflt
  | t :: ts, v => if x = Int32.ofNat v then kg t else pm_sw x kg dflt ts (v + 1)
def pm_pair : List Nat → Nat → Option Nat
  | a :: b :: t, i => bif Nat.beq a i then some b else pm_pair t i
  | _, _ => none
def pm_con : List Nat → Int32
  | [m, 0] => Int32.ofNat m
  | [m, _] => - Int32.ofNat m
  | _ => 0
section PMD
variable {α : Type} (c : Nat → List pm_V → pm_S → Option pm_Rs) (sc : pm_Sc) (rk : Nat)
def pm_br (cd : Jvm.ClassFile.Cond) (x : Int32) (a b : α) : α := match cd with
  | .eq => if x = 0 then a else b
  | .ne => if x = 0 then b else a
  | .lt => if x < 0 then a else b
  | .ge => if 0 ≤ x then a else b
  | .gt => if 0 < x then a else b
  | .le => if x ≤ 0 then a else b
def pm_br2 (cd : Jvm.ClassFile.Cond) (x y : Int32) (a b : α) : α := match cd with
  | .eq => if x = y then a else b
  | .ne => if x = y then b else a
  | .lt => if x < y then a else b
  | .ge => if y ≤ x then a else b
  | .gt => if y < x then a else b
  | .le => if x ≤ y then a else b
def pm_brb (cd : Jvm.ClassFile.Cond) (x : Bool) (a b kn : α) : α := match cd with
  | .eq => if x = true then b else a
  | .ne => if x = true then a else b
  | _ => kn
def pm_brb2 (cd : Jvm.ClassFile.Cond) (x y : Bool) (a b kn : α) : α := match cd with
  | .eq => if x = y then a else b
  | .ne => if x = y then b else a
  | _ => kn
/-- the kind of the object at a place that has been made -/
def pm_cls (n k : Nat) : Option Nat := bif Nat.blt k n then (match pm_kd k with | some (.inl ci) => some ci | _ => none) else none
/-- the kind of the array at a place that has been made -/
def pm_arr (n k : Nat) : Option (Nat × Nat) := bif Nat.blt k n then (match pm_kd k with | some (.inr a) => some a | _ => none) else none
def pm_call1 (kg : Option pm_V → pm_S → α) (kn : α) (r : Option pm_Rs) : α := match r with
  | some (v, u) => kg v u
  | none => kn
def pm_get (ty k j : Nat) (u : pm_S) : pm_V := match ty with
  | 0 => .inl (u.2.1 k j)
  | 1 => .inr (.inl (u.2.2.1 k j))
  | _ => .inr (.inr (.inl (u.2.2.2 k j)))
/-- a value into slot j of place k -/
def pm_put (ty k j : Nat) (v : pm_V) (u : pm_S) (kg : pm_S → α) (kn : α) : α := match ty, v with
  | 0, .inl x => kg (u.1, pm_up u.2.1 k j x, u.2.2.1, u.2.2.2)
  | 1, .inr (.inl b) => kg (u.1, u.2.1, pm_up u.2.2.1 k j b, u.2.2.2)
  | 1, .inl x => if x = 0 then kg (u.1, u.2.1, pm_up u.2.2.1 k j false, u.2.2.2) else if x = 1 then kg (u.1, u.2.1, pm_up u.2.2.1 k j true, u.2.2.2) else kn
  | 2, .inr (.inr (.inl (some q))) => kg (u.1, u.2.1, u.2.2.1, pm_up u.2.2.2 k j (some q))
  | _, _ => kn
def pm_iret (st : List pm_V) (u : pm_S) (kr : pm_Rs → α) (kn : α) : α := match rk, st with
  | 1, [.inl x] => kr (some (.inl x), u)
  | 2, [.inr (.inl b)] => kr (some (.inr (.inl b)), u)
  | 2, [.inl x] => if x = 0 then kr (some (.inr (.inl false)), u) else if x = 1 then kr (some (.inr (.inl true)), u) else kn
  | _, _ => kn
def pm_ld (v : Option pm_V) (kg : pm_V → α) (kn : α) : α := match v with
  | some (.inl x) => kg (.inl x)
  | some (.inr (.inl b)) => kg (.inr (.inl b))
  | _ => kn
def pm_la (v : Option pm_V) (kg : pm_V → α) (kn : α) : α := match v with
  | some (.inr (.inr q)) => kg (.inr (.inr q))
  | _ => kn
def pm_si (st : List pm_V) (kg : pm_V → List pm_V → α) (kn : α) : α := match st with
  | .inl x :: st => kg (.inl x) st
  | .inr (.inl b) :: st => kg (.inr (.inl b)) st
  | _ => kn
def pm_sa (st : List pm_V) (kg : pm_V → List pm_V → α) (kn : α) : α := match st with
  | .inr (.inr q) :: st => kg (.inr (.inr q)) st
  | _ => kn
def pm_op2 (st : List pm_V) (kg : Int32 → Int32 → List pm_V → α) (kn : α) : α := match st with
  | .inl y :: .inl x :: st => kg x y st
  | _ => kn
def pm_obj (n : Nat) (st : List pm_V) (kg : Nat → Nat → List pm_V → α) (kn : α) : α := match st with
  | .inr (.inr (.inl (some k))) :: st => (match pm_cls n k with | some ci => kg k ci st | none => kn)
  | _ => kn
/-- reads and writes of arrays: kind t0 -/
def pm_ald (t0 : Nat) (st : List pm_V) (u : pm_S) (kg : pm_V → List pm_V → α) (kn : α) : α := match st with
  | .inl i :: .inr (.inr (.inl (some k))) :: st => (match pm_arr u.1 k with
    | some (t, len) => bif (Nat.beq t t0 || (Nat.beq t0 2 && Nat.beq t 3)) && pm_ib i len then kg (pm_get t0 k i.toNatClampNeg u) st else kn
    | none => kn)
  | .inl i :: .inr (.inr (.inr _)) :: st => bif Nat.beq t0 0 && pm_ib i sc.1 then kg (.inl (sc.2 i.toNatClampNeg)) st else kn
  | _ => kn
def pm_ast (t0 : Nat) (st : List pm_V) (u : pm_S) (kg : List pm_V → pm_S → α) (kn : α) : α := match st with
  | v :: .inl i :: .inr (.inr (.inl (some k))) :: st => (match pm_arr u.1 k with
    | some (t, len) => bif Nat.beq t t0 && pm_ib i len then pm_put t0 k i.toNatClampNeg v u (fun u => kg st u) kn else kn
    | none => kn)
  | _ => kn
def pm_asta (st : List pm_V) (u : pm_S) (kg : List pm_V → pm_S → α) (kn : α) : α := match st with
  | .inr (.inr (.inl (some q))) :: .inl i :: .inr (.inr (.inl (some k))) :: st => (match pm_arr u.1 k, pm_cls u.1 q with
    | some (t, len), some ci => bif ((Nat.beq t 2 && Nat.beq ci 1) || (Nat.beq t 3 && Nat.beq ci 2)) && pm_ib i len then kg st (u.1, u.2.1, u.2.2.1, pm_up u.2.2.2 k i.toNatClampNeg (some q)) else kn
    | _, _ => kn)
  | _ => kn
/-- a new place n, all zero -/
def pm_made (u : pm_S) : pm_S := (u.1 + 1, pm_fz u.2.1 u.1 0, pm_fz u.2.2.1 u.1 false, pm_fz u.2.2.2 u.1 none)
def pm_new (d : pm_Kd) (st : List pm_V) (u : pm_S) (kg : List pm_V → pm_S → α) (kn : α) : α := match pm_kd u.1, d with
  | some (.inl a), .inl b => bif Nat.beq a b then kg (.inr (.inr (.inl (some u.1))) :: st) (pm_made u) else kn
  | some (.inr (a, x)), .inr (b, y) => bif Nat.beq a b && Nat.beq x y then kg (.inr (.inr (.inl (some u.1))) :: st) (pm_made u) else kn
  | _, _ => kn
/-- below a call's arguments the stack is short -/
def pm_gd (st : List pm_V) (a kn : α) : α := bif Nat.ble st.length 8 then a else kn
/-- the arguments off the stack: the last is on top -/
def pm_pop : Nat → List pm_V → List pm_V → Option (List pm_V × List pm_V)
  | 0, as, st => some (as, st)
  | n + 1, as, v :: st => pm_pop n (v :: as) st
  | _ + 1, _, [] => none
def pm_do (ins : Jvm.ClassFile.Instr) (nx : Nat) (ax : List Nat) (lv : pm_Lv) (st : List pm_V) (u : pm_S) (kg : Nat → pm_Lv → List pm_V → pm_S → α) (kr : pm_Rs → α) (kn : α) : α := match ins with
  | .iconst n => kg nx lv (.inl (Int32.ofInt n) :: st) u
  | .bipush n => kg nx lv (.inl (Int32.ofInt n) :: st) u
  | .sipush n => kg nx lv (.inl (Int32.ofInt n) :: st) u
  | .ldc _ => kg nx lv (.inl (pm_con ax) :: st) u
  | .iload_n k => pm_ld (pm_lget lv k.val) (fun v => kg nx lv (v :: st) u) kn
  | .iload i => pm_ld (pm_lget lv i) (fun v => kg nx lv (v :: st) u) kn
  | .aload_n k => pm_la (pm_lget lv k.val) (fun v => kg nx lv (v :: st) u) kn
  | .aload i => pm_la (pm_lget lv i) (fun v => kg nx lv (v :: st) u) kn
  | .istore_n k => pm_si st (fun v st => kg nx (pm_lset lv k.val v) st u) kn
  | .istore i => pm_si st (fun v st => kg nx (pm_lset lv i v) st u) kn
  | .astore_n k => pm_sa st (fun v st => kg nx (pm_lset lv k.val v) st u) kn
  | .astore i => pm_sa st (fun v st => kg nx (pm_lset lv i v) st u) kn
  | .iinc i n => (match pm_lget lv i with | some (.inl x) => kg nx (pm_lset lv i (.inl (x + Int32.ofInt n))) st u | _ => kn)
  | .iadd => pm_op2 st (fun x y st => kg nx lv (.inl (x + y) :: st) u) kn
  | .isub => pm_op2 st (fun x y st => kg nx lv (.inl (x - y) :: st) u) kn
  | .imul => pm_op2 st (fun x y st => kg nx lv (.inl (x * y) :: st) u) kn
  | .iand => pm_op2 st (fun x y st => kg nx lv (.inl (x &&& y) :: st) u) kn
  | .ior => pm_op2 st (fun x y st => kg nx lv (.inl (x ||| y) :: st) u) kn
  | .ishl => pm_op2 st (fun x y st => kg nx lv (.inl (x <<< (y &&& 31)) :: st) u) kn
  | .ishr => pm_op2 st (fun x y st => kg nx lv (.inl (x >>> (y &&& 31)) :: st) u) kn
  | .idiv => pm_op2 st (fun x y st => if y = 0 then kn else kg nx lv (.inl (x / y) :: st) u) kn
  | .irem => pm_op2 st (fun x y st => if y = 0 then kn else kg nx lv (.inl (x - x / y * y) :: st) u) kn
  | .dup => (match st with | v :: st => kg nx lv (v :: v :: st) u | _ => kn)
  | .dup2 => (match st with | v :: w :: st => kg nx lv (v :: w :: v :: w :: st) u | _ => kn)
  | .ifCond cd _ => (match st with | .inl x :: st => pm_br cd x (kg (ax.headD 0) lv st u) (kg nx lv st u) | .inr (.inl b) :: st => pm_brb cd b (kg (ax.headD 0) lv st u) (kg nx lv st u) kn | _ => kn)
  | .if_icmp cd _ => (match st with | .inl y :: .inl x :: st => pm_br2 cd x y (kg (ax.headD 0) lv st u) (kg nx lv st u) | .inr (.inl y) :: .inr (.inl x) :: st => pm_brb2 cd x y (kg (ax.headD 0) lv st u) (kg nx lv st u) kn | _ => kn)
  | .goto _ => kg (ax.headD 0) lv st u
  | .getfield _ => (match ax with | j :: ty :: cis => pm_obj u.1 st (fun k ci st => bif cis.any (Nat.beq ci) then kg nx lv (pm_get ty k j u :: st) u else kn) kn | _ => kn)
  | .putfield _ => (match ax, st with | j :: ty :: _ :: cis, v :: st => pm_obj u.1 st (fun k ci st => bif cis.any (Nat.beq ci) then pm_put ty k j v u (fun u => kg nx lv st u) kn else kn) kn | _, _ => kn)
  | .iaload => pm_ald sc 0 st u (fun v st => kg nx lv (v :: st) u) kn
  | .baload => pm_ald sc 1 st u (fun v st => kg nx lv (v :: st) u) kn
  | .aaload => pm_ald sc 2 st u (fun v st => kg nx lv (v :: st) u) kn
  | .iastore => pm_ast 0 st u (fun st u => kg nx lv st u) kn
  | .bastore => pm_ast 1 st u (fun st u => kg nx lv st u) kn
  | .aastore => pm_asta st u (fun st u => kg nx lv st u) kn
  | .arraylength => (match st with | .inr (.inr (.inr _)) :: st => kg nx lv (.inl (Int32.ofNat sc.1) :: st) u | _ => kn)
  | .new _ => (match ax with | ci :: _ => pm_new (.inl ci) st u (fun st u => kg nx lv st u) kn | _ => kn)
  | .newarray a => (match ax, st with | [t], .inl i :: st => bif !(decide (i < 0)) then pm_new (.inr (t, i.toNatClampNeg)) st u (fun st u => kg nx lv st u) kn else kn | _, _ => kn)
  | .anewarray _ => (match ax, st with | [t], .inl i :: st => bif !(decide (i < 0)) then pm_new (.inr (t, i.toNatClampNeg)) st u (fun st u => kg nx lv st u) kn else kn | _, _ => kn)
  | .invokevirtual _ => (match ax with
    | na :: _ :: ps => (match pm_pop na [] st with
      | some (as, st) => pm_obj u.1 st (fun k ci st => match pm_pair ps ci with
        | some mi => pm_gd st (pm_call1 (fun v u => kg nx lv (v.toList ++ st) u) kn (c mi (.inr (.inr (.inl (some k))) :: as) u)) kn
        | none => kn) kn
      | none => kn)
    | _ => kn)
  | .invokespecial _ => (match ax with
    | [] => (match st with | .inr (.inr (.inl (some _))) :: st => pm_gd st (kg nx lv st u) kn | _ => kn)
    | na :: mi :: _ => (match pm_pop na [] st with
      | some (as, .inr (.inr (.inl (some k))) :: st) => pm_gd st (pm_call1 (fun v u => kg nx lv (v.toList ++ st) u) kn (c mi (.inr (.inr (.inl (some k))) :: as) u)) kn
      | _ => kn)
    | _ => kn)
  | .invokestatic _ => (match ax with
    | [0] => pm_op2 st (fun x y st => pm_gd st (kg nx lv (.inl (if x < y then y else x) :: st) u) kn) kn
    | [1] => pm_op2 st (fun x y st => pm_gd st (kg nx lv (.inl (if y < x then y else x) :: st) u) kn) kn
    | na :: mi :: _ => (match pm_pop na [] st with
      | some (as, st) => pm_gd st (pm_call1 (fun v u => kg nx lv (v.toList ++ st) u) kn (c mi as u)) kn
      | none => kn)
    | _ => kn)
  | .tableswitch _ _ _ _ => (match ax, st with | d :: ts, .inl x :: st => pm_sw x (fun pc => kg pc lv st u) d ts 0 | _, _ => kn)
  | .ireturn => pm_iret rk st u kr kn
  | .areturn => (match rk, st with | 3, [.inr (.inr (.inl q))] => kr (some (.inr (.inr (.inl q))), u) | _, _ => kn)
  | .return_ => (match rk, st with | 0, [] => kr (none, u) | _, _ => kn)
  | _ => kn
def pm_stp (cd : pm_Cd) (pc : Nat) (lv : pm_Lv) (st : List pm_V) (u : pm_S) (kg : Nat → pm_Lv → List pm_V → pm_S → α) (kr : pm_Rs → α) (kn : α) : α := match pm_find cd pc with
  | some (ins, nx, ax) => pm_do c sc rk ins nx ax lv st u kg kr kn
  | none => kn
/-- up to k steps, stopping at pcs that 'cut' names -/
def pm_iter (cd : pm_Cd) (cut : List Nat) : Nat → Nat → pm_Lv → List pm_V → pm_S → (Nat → pm_Lv → List pm_V → pm_S → α) → (pm_Rs → α) → α → α
  | 0, pc, lv, st, u, kg, _, _ => kg pc lv st u
  | k + 1, pc, lv, st, u, kg, kr, kn => pm_stp c sc rk cd pc lv st u (fun pc lv st u => bif cut.any (Nat.beq pc) then kg pc lv st u else pm_iter cd cut k pc lv st u kg kr kn) kr kn
end PMD
abbrev pm_St : Type := Nat × pm_Lv × List pm_V × pm_S

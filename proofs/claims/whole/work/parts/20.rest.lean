/-! The references at rest, and the method table as a function. f s j: the place of the frame at index j of line s. -/
def pm_rts : List (List (List Nat)) := [
  [[29, 48], [2], [], [], [], [], [], []],
  [[], [], [], [], [], [], [], [16]],
  [[], [], [], [], [], [], [], []],
  [[], [], [], [], [], [30, 31, 1, 15], [32, 34, 36, 38, 40, 42, 44, 46], []],
  [[33], [], [35], [], [37], [], [39], []],
  [[41], [], [43], [], [45], [], [47], []],
  [[49, 50, 15, 1], [51, 53, 55, 57, 59, 61, 63, 65], [], [52], [], [54], [], [56]],
  [[], [58], [], [60], [], [62], [], [64]],
  [[], [66], [], [68, 69, 70, 71, 72, 73, 74, 75, 76, 77, 78, 79, 80, 81, 82, 83, 84], [], [], [], []],
  [[], [], [], [], [], [], [], []],
  [[], [], [], [], [], [], [], []]]
def pm_R (f : Nat → Nat → Nat) : Nat → Nat → Option Nat := fun k j =>
  bif Nat.beq k 2 then (bif Nat.blt j 12 then some (f 0 j) else none) else bif Nat.beq k 16 then (bif Nat.blt j 12 then some (f 1 j) else none) else ((pm_rts.getD (k / 8) []).getD (k % 8) [])[j]?
def pm_Tf (mi : Nat) : pm_Cd × Nat := match pm_MT[mi]? with
  | some N => (N.2.2.2.2.1, N.2.2.2.2.2)
  | none => ([], 0)
theorem pm_Tf_of (mi : Nat) (N : pm_Mt) (h : pm_MT[mi]? = some N) : pm_Tf mi = (N.2.2.2.2.1, N.2.2.2.2.2) := by
  unfold pm_Tf
  rw [h]
abbrev pm_r (k : Nat) : pm_V := .inr (.inr (.inl (some k)))
abbrev pm_b (b : Bool) : pm_V := .inr (.inl b)
abbrev pm_bi (b : Bool) : pm_V := .inl (bif b then 1 else 0)
/-- the memory at rest -/
abbrev pm_u (x : Nat → Nat → Int32) (w : Nat → Nat → Bool) (f : Nat → Nat → Nat) : pm_S := (85, x, w, pm_R f)
theorem pm_iteS {α : Type} {p : Prop} {hd : Decidable p} {a b : Option α} {x y : α} (ha : p → a = some x) (hb : ¬ p → b = some y) : @ite (Option α) p hd a b = some (@ite α p hd x y) := by
  by_cases h : p
  · rw [if_pos h, if_pos h]; exact ha h
  · rw [if_neg h, if_neg h]; exact hb h
theorem pm_call1_of {α : Type} {kg : Option pm_V → pm_S → α} {kn : α} {r : Option pm_Rs} {v : Option pm_V} {u : pm_S} (h : r = some (v, u)) : pm_call1 kg kn r = kg v u := by rw [h]; rfl
/-- a method that calls nothing, at every depth -/
theorem pm_call_0 {T : Nat → pm_Cd × Nat} {sc : pm_Sc} {mi : Nat} {av : List pm_V} {u : pm_S} {r : pm_Rs} (h : ∀ c, pm_ev c sc (T mi).2 (T mi).1 0 (pm_args 0 av) [] u = some r) (d : Nat) : pm_call T sc d mi av u = some r := by
  cases d
  · exact h _
  · exact h _
def pm_LP : List Nat := [32, 34, 36, 38, 40, 42, 44, 46, 51, 53, 55, 57, 59, 61, 63, 65]

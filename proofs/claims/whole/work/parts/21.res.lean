def pm_FP : List Nat := [3, 4, 5, 6, 7, 8, 9, 10, 11, 12, 13, 14, 17, 18, 19, 20, 21, 22, 23, 24, 25, 26, 27, 28, 31, 50]
theorem pm_iteW {α β : Type} {g : β → α} {p : Prop} {hd : Decidable p} {a b : Option α} {x y : β} (ha : p → a = some (g x)) (hb : ¬ p → b = some (g y)) : @ite (Option α) p hd a b = some (g (@ite β p hd x y)) := by
  by_cases h : p
  · rw [if_pos h, if_pos h]; exact ha h
  · rw [if_neg h, if_neg h]; exact hb h
def pm_g0 (x : Nat → Nat → Int32) (w : Nat → Nat → Bool) (f : Nat → Nat → Nat) (_ : Unit) : pm_Rs := (none, pm_u x w f)
def pm_g1 (x : Nat → Nat → Int32) (w : Nat → Nat → Bool) (f : Nat → Nat → Nat) (a : Int32) : pm_Rs := (some (.inl a), pm_u x w f)
def pm_g2 (x : Nat → Nat → Int32) (w : Nat → Nat → Bool) (f : Nat → Nat → Nat) (a : Bool) : pm_Rs := (some (pm_b a), pm_u x w f)
def pm_g3 (x : Nat → Nat → Int32) (w : Nat → Nat → Bool) (f : Nat → Nat → Nat) (a : Nat) : pm_Rs := (some (pm_r a), pm_u x w f)
def pm_h0 (f : Nat → Nat → Nat) (t : (Nat → Nat → Int32) × (Nat → Nat → Bool)) : pm_Rs := (none, pm_u t.1 t.2 f)
def pm_h1 (f : Nat → Nat → Nat) (t : Int32 × (Nat → Nat → Int32) × (Nat → Nat → Bool)) : pm_Rs := (some (.inl t.1), pm_u t.2.1 t.2.2 f)
def pm_h2 (f : Nat → Nat → Nat) (t : Bool × (Nat → Nat → Int32) × (Nat → Nat → Bool)) : pm_Rs := (some (pm_b t.1), pm_u t.2.1 t.2.2 f)
def pm_h3 (f : Nat → Nat → Nat) (t : Nat × (Nat → Nat → Int32) × (Nat → Nat → Bool)) : pm_Rs := (some (pm_r t.1), pm_u t.2.1 t.2.2 f)
theorem pm_iteG {γ β : Type} {g : β → γ} {p : Prop} {hd : Decidable p} {a b : γ} {x y : β} (ha : p → a = g x) (hb : ¬ p → b = g y) : @ite γ p hd a b = g (@ite β p hd x y) := by
  by_cases h : p
  · rw [if_pos h, if_pos h]; exact ha h
  · rw [if_neg h, if_neg h]; exact hb h
theorem pm_lt8 {i : Nat} (h : i < 8) : i = 0 ∨ i = 1 ∨ i = 2 ∨ i = 3 ∨ i = 4 ∨ i = 5 ∨ i = 6 ∨ i = 7 := by omega
theorem pm_lt12 {i : Nat} (h : i < 12) : i = 0 ∨ i = 1 ∨ i = 2 ∨ i = 3 ∨ i = 4 ∨ i = 5 ∨ i = 6 ∨ i = 7 ∨ i = 8 ∨ i = 9 ∨ i = 10 ∨ i = 11 := by omega
theorem pm_lt16 {i : Nat} (h : i < 16) : i = 0 ∨ i = 1 ∨ i = 2 ∨ i = 3 ∨ i = 4 ∨ i = 5 ∨ i = 6 ∨ i = 7 ∨ i = 8 ∨ i = 9 ∨ i = 10 ∨ i = 11 ∨ i = 12 ∨ i = 13 ∨ i = 14 ∨ i = 15 := by omega
theorem pm_lt32 {i : Nat} (h : i < 32) : i = 0 ∨ i = 1 ∨ i = 2 ∨ i = 3 ∨ i = 4 ∨ i = 5 ∨ i = 6 ∨ i = 7 ∨ i = 8 ∨ i = 9 ∨ i = 10 ∨ i = 11 ∨ i = 12 ∨ i = 13 ∨ i = 14 ∨ i = 15 ∨ i = 16 ∨ i = 17 ∨ i = 18 ∨ i = 19 ∨ i = 20 ∨ i = 21 ∨ i = 22 ∨ i = 23 ∨ i = 24 ∨ i = 25 ∨ i = 26 ∨ i = 27 ∨ i = 28 ∨ i = 29 ∨ i = 30 ∨ i = 31 := by omega

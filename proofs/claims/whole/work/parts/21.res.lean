def pm_FP : List Nat := [3, 4, 5, 6, 7, 8, 9, 10, 11, 12, 13, 14, 17, 18, 19, 20, 21, 22, 23, 24, 25, 26, 27, 28, 31, 50]
theorem pm_iteW {α β : Type} {g : β → α} {p : Prop} {hd : Decidable p} {a b : Option α} {x y : β} (ha : p → a = some (g x)) (hb : ¬ p → b = some (g y)) : @ite (Option α) p hd a b = some (g (@ite β p hd x y)) := by
  by_cases h : p
  · rw [if_pos h, if_pos h]; exact ha h
  · rw [if_neg h, if_neg h]; exact hb h
def pm_g0 (x : Nat → Nat → Int32) (w : Nat → Nat → Bool) (f : Nat → Nat → Nat) (_ : Unit) : pm_Rs := (none, pm_u x w f)
def pm_g1 (x : Nat → Nat → Int32) (w : Nat → Nat → Bool) (f : Nat → Nat → Nat) (a : Int32) : pm_Rs := (some (.inl a), pm_u x w f)
def pm_g2 (x : Nat → Nat → Int32) (w : Nat → Nat → Bool) (f : Nat → Nat → Nat) (a : Bool) : pm_Rs := (some (pm_b a), pm_u x w f)
def pm_g3 (x : Nat → Nat → Int32) (w : Nat → Nat → Bool) (f : Nat → Nat → Nat) (a : Nat) : pm_Rs := (some (pm_r a), pm_u x w f)
def pm_h0 (f : Nat → Nat → Nat) (t : (Nat → Nat → Int32) × (Nat → Nat → Bool)) : pm_Rs := (none, pm_u t.1 t.2 f)
def pm_h1 (f : Nat → Nat → Nat) (t : Int32 × (Nat → Nat → Int32) × (Nat → Nat → Bool)) : pm_Rs := (some (.inl t.1), pm_u t.2.1 t.2.2 f)
def pm_h2 (f : Nat → Nat → Nat) (t : Bool × (Nat → Nat → Int32) × (Nat → Nat → Bool)) : pm_Rs := (some (pm_b t.1), pm_u t.2.1 t.2.2 f)
def pm_h3 (f : Nat → Nat → Nat) (t : Nat × (Nat → Nat → Int32) × (Nat → Nat → Bool)) : pm_Rs := (some (pm_r t.1), pm_u t.2.1 t.2.2 f)
theorem pm_iteG {γ β : Type} {g : β → γ} {p : Prop} {hd : Decidable p} {a b : γ} {x y : β} (ha : p → a = g x) (hb : ¬ p → b = g y) : @ite γ p hd a b = g (@ite β p hd x y) := by
  by_cases h : p
  · rw [if_pos h, if_pos h]; exact ha h
  · rw [if_neg h, if_neg h]; exact hb h

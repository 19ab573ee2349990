/-! A = B and the newest frames. -/
def pm_nw (k : Nat) : Bool := Nat.beq k 31 || Nat.beq k 50 || Nat.beq k 72 || Nat.beq k 73
def pm_fn (k : Nat) : Bool := pm_fl k && !(pm_nw k)
theorem pm_px_nw : ∀ q ∈ pm_px, pm_nw q.1.1 = false ∧ pm_nw q.2.1.1 = false := by decide +kernel
theorem pm_pw_nw : ∀ q ∈ pm_pw, pm_nw q.1.1 = false ∧ pm_nw q.2.1 = false := by decide +kernel
theorem pm_fx_nw {k j : Nat} (h : pm_nw k = true) : pm_fx k j = true := by
  unfold pm_fx
  apply List.all_eq_true.mpr
  intro q hq
  obtain ⟨h1, h2⟩ := pm_px_nw q hq
  simp only [Bool.and_eq_true, decide_eq_true_eq]
  exact ⟨fun e => (by rw [e] at h1; rw [h] at h1; cases h1), fun e => (by rw [e] at h2; rw [h] at h2; cases h2)⟩
theorem pm_fw_nw {k j : Nat} (h : pm_nw k = true) : pm_fw k j = true := by
  unfold pm_fw
  apply List.all_eq_true.mpr
  intro q hq
  obtain ⟨h1, h2⟩ := pm_pw_nw q hq
  simp only [Bool.and_eq_true, decide_eq_true_eq]
  exact ⟨fun e => (by rw [e] at h1; rw [h] at h1; cases h1), fun e => (by rw [e] at h2; rw [h] at h2; cases h2)⟩
/-- B sees neither pairs nor lines nor newest frames -/
def pm_CB (B : pm_Av) : Prop := ∀ n x w x' w', (∀ k j, pm_fn k = true → pm_fx k j = true → x' k j = x k j) → (∀ k j, pm_fn k = true → pm_fw k j = true → w' k j = w k j) → B n x w → B (n + 1) x' w'
def pm_Ab (B : pm_Av) : pm_Av := fun n x w => B n x w ∧ pm_N 31 0 0 x w ∧ pm_N 50 1 6 x w
theorem pm_N_c {Q s t : Nat} {x y : Nat → Nat → Int32} {w v : Nat → Nat → Bool} (h : pm_N Q s t x w) (hx : ∀ r, y Q r = x Q r) (hw : ∀ r, v Q r = w Q r) (hs : v 72 s = w 72 s) (ht : ∀ r, r < 6 → y 73 (t + r) = x 73 (t + r)) : pm_N Q s t y v := by
  have t0 : y 73 t = x 73 t := ht 0 (by decide)
  rcases h with ⟨n0, n1, n2, n3, n4, n5, n6⟩ | ⟨n0, n1, n2, n3, n4, n5, n6⟩
  · refine Or.inl ⟨hs.trans n0, ?_, ?_, ?_, ?_, ?_, ?_⟩
    · rw [hx, t0]; exact n1
    · rw [hx, ht 1 (by decide)]; exact n2
    · rw [hx, ht 2 (by decide)]; exact n3
    · rw [hx, ht 3 (by decide)]; exact n4
    · rw [ht 4 (by decide), hw]; exact n5
    · rw [ht 5 (by decide), hw]; exact n6
  · exact Or.inr ⟨hs.trans n0, (hx 0).trans n1, (hx 1).trans n2, (hx 2).trans n3, (hx 3).trans n4, (hw 4).trans n5, (hw 5).trans n6⟩
theorem pm_CA_Ab {B : pm_Av} (hB : pm_CB B) : pm_CA (pm_Ab B) := by
  intro n x w x' w' hx hw h
  have hfl : ∀ k, pm_fn k = true → pm_fl k = true := fun k g => by
    simp only [pm_fn, Bool.and_eq_true] at g
    exact g.1
  have ex : ∀ k j, pm_nw k = true → pm_fl k = true → x' k j = x k j := fun k j g1 g2 => hx k j g2 (pm_fx_nw g1)
  have ew : ∀ k j, pm_nw k = true → pm_fl k = true → w' k j = w k j := fun k j g1 g2 => hw k j g2 (pm_fw_nw g1)
  exact ⟨hB n x w x' w' (fun k j g => hx k j (hfl k g)) (fun k j g => hw k j (hfl k g)) h.1, pm_N_c h.2.1 (fun r => ex 31 r rfl rfl) (fun r => ew 31 r rfl rfl) (ew 72 0 rfl rfl) (fun r _ => ex 73 _ rfl rfl), pm_N_c h.2.2 (fun r => ex 50 r rfl rfl) (fun r => ew 50 r rfl rfl) (ew 72 1 rfl rfl) (fun r _ => ex 73 _ rfl rfl)⟩

/-! The code of the law, whole. -/
theorem pm_all_of {α : Type} {P : List α → Bool} {l : List (List α)} (h : ∀ i, i < l.length → P (l.getD i []) = true) : l.all P = true := by
  apply List.all_eq_true.mpr
  intro q hq
  obtain ⟨i, hi, he⟩ := List.getElem_of_mem hq
  have h1 := h i hi
  rw [List.getD_eq_getElem?_getD, List.getElem?_eq_getElem hi] at h1
  rw [← he]
  exact h1
theorem pm_kLc : ∀ i, i < 46 → (pm_cL.getD i []).all (pm_okb pm_MT pm_mL) = true := by
  intro i hi
  have h : i = 0 ∨ i = 1 ∨ i = 2 ∨ i = 3 ∨ i = 4 ∨ i = 5 ∨ i = 6 ∨ i = 7 ∨ i = 8 ∨ i = 9 ∨ i = 10 ∨ i = 11 ∨ i = 12 ∨ i = 13 ∨ i = 14 ∨ i = 15 ∨ i = 16 ∨ i = 17 ∨ i = 18 ∨ i = 19 ∨ i = 20 ∨ i = 21 ∨ i = 22 ∨ i = 23 ∨ i = 24 ∨ i = 25 ∨ i = 26 ∨ i = 27 ∨ i = 28 ∨ i = 29 ∨ i = 30 ∨ i = 31 ∨ i = 32 ∨ i = 33 ∨ i = 34 ∨ i = 35 ∨ i = 36 ∨ i = 37 ∨ i = 38 ∨ i = 39 ∨ i = 40 ∨ i = 41 ∨ i = 42 ∨ i = 43 ∨ i = 44 ∨ i = 45 := by omega
  rcases h with rfl | rfl | rfl | rfl | rfl | rfl | rfl | rfl | rfl | rfl | rfl | rfl | rfl | rfl | rfl | rfl | rfl | rfl | rfl | rfl | rfl | rfl | rfl | rfl | rfl | rfl | rfl | rfl | rfl | rfl | rfl | rfl | rfl | rfl | rfl | rfl | rfl | rfl | rfl | rfl | rfl | rfl | rfl | rfl | rfl | rfl
  · exact pm_kL0
  · exact pm_kL1
  · exact pm_kL2
  · exact pm_kL3
  · exact pm_kL4
  · exact pm_kL5
  · exact pm_kL6
  · exact pm_kL7
  · exact pm_kL8
  · exact pm_kL9
  · exact pm_kL10
  · exact pm_kL11
  · exact pm_kL12
  · exact pm_kL13
  · exact pm_kL14
  · exact pm_kL15
  · exact pm_kL16
  · exact pm_kL17
  · exact pm_kL18
  · exact pm_kL19
  · exact pm_kL20
  · exact pm_kL21
  · exact pm_kL22
  · exact pm_kL23
  · exact pm_kL24
  · exact pm_kL25
  · exact pm_kL26
  · exact pm_kL27
  · exact pm_kL28
  · exact pm_kL29
  · exact pm_kL30
  · exact pm_kL31
  · exact pm_kL32
  · exact pm_kL33
  · exact pm_kL34
  · exact pm_kL35
  · exact pm_kL36
  · exact pm_kL37
  · exact pm_kL38
  · exact pm_kL39
  · exact pm_kL40
  · exact pm_kL41
  · exact pm_kL42
  · exact pm_kL43
  · exact pm_kL44
  · exact pm_kL45
theorem pm_kL : pm_okm pm_MT pm_mL = true := by
  have h1 : pm_cL.all (fun ch => ch.all (pm_okb pm_MT pm_mL)) = true := pm_all_of (P := fun ch => ch.all (pm_okb pm_MT pm_mL)) (fun i hi => pm_kLc i hi)
  have h2 : plainName pm_mL.1.cls = true := by decide +kernel
  have h3 : pm_rko pm_mL.2.2.2.1 pm_mL.2.2.2.2.2 = true := by decide +kernel
  have e : pm_mL.2.2.2.2.1 = pm_cL := rfl
  unfold pm_okm
  rw [h2, h3, e, h1]
  rfl

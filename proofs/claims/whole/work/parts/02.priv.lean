/-! Private methods of the type above Train and Platform, on receivers of these two: the words by which a call selects them follow from others. -/
theorem pm_sel {C : String} {x0 y0 y : MethodName} {s : State} {args : Array Value} (h0 : (Cond.selects C x0 y0).before args s = true) (hc : y0.cls = y.cls) (hy : y.cls ≠ "java/lang/invoke/MethodHandle" ∧ y.cls ≠ "java/lang/invoke/VarHandle") (hp : (Cond.privateMethod y).before args s = true) (hi : (Cond.instanceMethod y).before args s = true) : (Cond.selects C y y).before args s = true := by
  obtain ⟨mk, me, hn, hm, -, -⟩ := Cond.instanceMethod_spec hi
  obtain ⟨cc, rr, mm, e1, -, e3, -, kk, e5, e6⟩ := Cond.selects_spec h0
  have hf := State.methodFound?_of_named hn hy
  have hs : selectMethod {} s.vm cc mk = .method mk := selectMethod_private hm (Cond.privateMethod_at hp mk me hn hm)
  have hmc : mk.cls = mm.cls := by
    have h1 := findClass_of_methodNamed hn
    have h2 := findClass_of_methodNamed e3
    rw [hc, h1] at h2
    exact Option.some.inj h2
  simp only [Cond.before, Cond.holds, Cond.value, e1, hf, hn, hs, hmc, e5]
  simp
  exact e6
def pm_pv : List MethodName := [⟨"PlatformDoors$Side", "changeState", "()V"⟩, ⟨"PlatformDoors$Side", "send", "()V"⟩, ⟨"PlatformDoors$Side", "isolatedBits", "()I"⟩]
def pm_w2 : List Cond := pm_pv.map (fun y => Cond.selects "PlatformDoors$Train" y y) ++ pm_pv.map (fun y => Cond.selects "PlatformDoors$Platform" y y)
def pm_tb : List Cond := pm_w2 ++ lw_tbl
def pm_sadv : MethodName := ⟨"PlatformDoors$Side", "advance", "()V"⟩
theorem pm_pv_ok : ∀ y ∈ pm_pv, y.cls = "PlatformDoors$Side" ∧ Cond.privateMethod y ∈ lw_tbl ∧ Cond.instanceMethod y ∈ lw_tbl := by decide +kernel
theorem pm_sadv_ok : Cond.selects "PlatformDoors$Train" pm_sadv pm_sadv ∈ lw_tbl ∧ Cond.selects "PlatformDoors$Platform" pm_sadv pm_sadv ∈ lw_tbl := by decide +kernel
theorem pm_tb_of {s : State} {args : Array Value} (h : ∀ w ∈ lw_tbl, w.before args s = true) : ∀ w ∈ pm_tb, w.before args s = true := by
  intro w hw
  rcases List.mem_append.mp hw with hw | hw
  · rcases List.mem_append.mp hw with hw | hw
    · obtain ⟨y, hy, rfl⟩ := List.mem_map.mp hw
      obtain ⟨h1, h2, h3⟩ := pm_pv_ok y hy
      exact pm_sel (h _ pm_sadv_ok.1) h1.symm (by rw [h1]; exact ⟨by decide, by decide⟩) (h _ h2) (h _ h3)
    · obtain ⟨y, hy, rfl⟩ := List.mem_map.mp hw
      obtain ⟨h1, h2, h3⟩ := pm_pv_ok y hy
      exact pm_sel (h _ pm_sadv_ok.2) h1.symm (by rw [h1]; exact ⟨by decide, by decide⟩) (h _ h2) (h _ h3)
  · exact h w hw

/-! The constructors: run by computation. -/
section PMX
variable {c c' : Nat → List pm_V → pm_S → Option pm_Rs} {sc sc' : pm_Sc} {rk : Nat} {cd : pm_Cd}
def pm_nv (ins : Jvm.ClassFile.Instr) : Bool := match ins with
  | .invokevirtual _ => false
  | .invokespecial _ => false
  | .invokestatic _ => false
  | _ => true
theorem pm_do_c {α : Type} {ins : Jvm.ClassFile.Instr} {nx : Nat} {ax : List Nat} {lv : pm_Lv} {st : List pm_V} {u : pm_S} {kg : Nat → pm_Lv → List pm_V → pm_S → α} {kr : pm_Rs → α} {kn : α} (h : pm_nv ins = true) : pm_do c sc rk ins nx ax lv st u kg kr kn = pm_do c' sc rk ins nx ax lv st u kg kr kn := by
  cases ins
  case invokevirtual => cases h
  case invokespecial => cases h
  case invokestatic => cases h
  all_goals rfl
theorem pm_do_mono (hc : ∀ mi av u r, c mi av u = some r → c' mi av u = some r) {ins : Jvm.ClassFile.Instr} {nx : Nat} {ax : List Nat} {lv : pm_Lv} {st : List pm_V} {u : pm_S} {kg kg' : Nat → pm_Lv → List pm_V → pm_S → Option pm_Rs} {r : pm_Rs} (h : ∀ pc lv st u, kg pc lv st u = some r → kg' pc lv st u = some r) : pm_do c sc rk ins nx ax lv st u kg some none = some r → pm_do c' sc rk ins nx ax lv st u kg' some none = some r := by
  have hcall : ∀ (mi : Nat) (av : List pm_V) (st : List pm_V), pm_call1 (fun v u => kg nx lv (v.toList ++ st) u) none (c mi av u) = some r → pm_call1 (fun v u => kg' nx lv (v.toList ++ st) u) none (c' mi av u) = some r := by
    intro mi av st hh
    cases hcm : c mi av u with
    | none => rw [hcm] at hh; cases hh
    | some q =>
      rw [hcm] at hh
      rw [hc _ _ _ _ hcm]
      exact h _ _ _ _ hh
  cases hv : pm_nv ins
  case true =>
    rw [pm_do_c (c' := c') hv]
    exact pm_do_rel (R := fun (a b : Option pm_Rs) => a = some r → b = some r) h (fun _ h => h) (fun h => h)
  cases ins
  case invokevirtual i =>
    rcases ax with _ | ⟨na, _ | ⟨xn, ps⟩⟩
    · exact fun hh => by cases hh
    · exact fun hh => by cases hh
    · show (match pm_pop na [] st with | some (as, st) => _ | none => none) = some r → (match pm_pop na [] st with | some (as, st) => _ | none => none) = some r
      rcases pm_pop na [] st with _ | ⟨as, st⟩
      · exact fun hh => hh
      · refine pm_obj_rel (R := fun (a b : Option pm_Rs) => a = some r → b = some r) (fun k ci st => ?_) (fun hh => hh)
        show (match pm_pair ps ci with | some mi => _ | none => none) = some r → (match pm_pair ps ci with | some mi => _ | none => none) = some r
        rcases pm_pair ps ci with _ | mi
        · exact fun hh => hh
        · exact pm_bif_rel (R := fun (a b : Option pm_Rs) => a = some r → b = some r) (hcall _ _ _) (fun hh => hh)
  case invokespecial i =>
    rcases ax with _ | ⟨na, _ | ⟨mi, ax⟩⟩
    · rcases st with _ | ⟨x | b | (_ | k) | z, st⟩ <;> first | exact (fun hh => hh) | exact pm_bif_rel (R := fun (a b : Option pm_Rs) => a = some r → b = some r) (h _ _ _ _) (fun hh => hh)
    · exact fun hh => hh
    · show (match pm_pop na [] st with | some (as, .inr (.inr (.inl (some k))) :: st) => _ | _ => none) = some r → (match pm_pop na [] st with | some (as, .inr (.inr (.inl (some k))) :: st) => _ | _ => none) = some r
      rcases pm_pop na [] st with _ | ⟨as, _ | ⟨x | b | (_ | k) | z, st⟩⟩ <;> first | exact (fun hh => hh) | exact pm_bif_rel (R := fun (a b : Option pm_Rs) => a = some r → b = some r) (hcall _ _ _) (fun hh => hh)
  case invokestatic i =>
    rcases ax with _ | ⟨na, _ | ⟨mi, ax⟩⟩
    · exact fun hh => hh
    · rcases na with _ | _ | na <;> first | exact (fun hh => hh) | exact pm_op2_rel (R := fun (a b : Option pm_Rs) => a = some r → b = some r) (fun _ _ _ => pm_bif_rel (R := fun (a b : Option pm_Rs) => a = some r → b = some r) (h _ _ _ _) (fun hh => hh)) (fun hh => hh)
    · have key : (match pm_pop na [] st with | some (as, st) => pm_gd st (pm_call1 (fun v u => kg nx lv (v.toList ++ st) u) none (c mi as u)) none | none => none) = some r → (match pm_pop na [] st with | some (as, st) => pm_gd st (pm_call1 (fun v u => kg' nx lv (v.toList ++ st) u) none (c' mi as u)) none | none => none) = some r := by
        rcases pm_pop na [] st with _ | ⟨as, st⟩
        · exact fun hh => hh
        · exact pm_bif_rel (R := fun (a b : Option pm_Rs) => a = some r → b = some r) (hcall _ _ _) (fun hh => hh)
      rcases na with _ | _ | na <;> exact key
  all_goals cases hv
theorem pm_loop_mono (hc : ∀ mi av u r, c mi av u = some r → c' mi av u = some r) {r : pm_Rs} : ∀ (f pc : Nat) (lv : pm_Lv) (st : List pm_V) (u : pm_S), pm_loop c sc rk cd f pc lv st u = some r → pm_loop c' sc rk cd f pc lv st u = some r
  | 0, _, _, _, _, h => by cases h
  | f + 1, pc, lv, st, u, h => by
    revert h
    show pm_stp c sc rk cd pc lv st u (pm_loop c sc rk cd f) some none = some r → pm_stp c' sc rk cd pc lv st u (pm_loop c' sc rk cd f) some none = some r
    unfold pm_stp
    rcases pm_find cd pc with _ | ⟨ins, nx, ax⟩
    · exact fun hh => hh
    · exact pm_do_mono hc (fun pc lv st u h => pm_loop_mono hc f pc lv st u h)
/-- instructions that never see the script -/
def pm_ns (ins : Jvm.ClassFile.Instr) : Bool := match ins with
  | .iaload => false
  | .arraylength => false
  | _ => true
theorem pm_ald_ns {α : Type} {t0 : Nat} {st : List pm_V} {u : pm_S} {kg : pm_V → List pm_V → α} {kn : α} (h : Nat.beq t0 0 = false) : pm_ald sc t0 st u kg kn = pm_ald sc' t0 st u kg kn := by
  rcases st with _ | ⟨i | v, _ | ⟨x | b | (_ | k) | z, st⟩⟩ <;> first | rfl | skip
  show (bif Nat.beq t0 0 && pm_ib i sc.1 then _ else kn) = (bif Nat.beq t0 0 && pm_ib i sc'.1 then _ else kn)
  rw [h]
  rfl
theorem pm_do_ns {α : Type} {ins : Jvm.ClassFile.Instr} {nx : Nat} {ax : List Nat} {lv : pm_Lv} {st : List pm_V} {u : pm_S} {kg : Nat → pm_Lv → List pm_V → pm_S → α} {kr : pm_Rs → α} {kn : α} (h : pm_ns ins = true) : pm_do c sc rk ins nx ax lv st u kg kr kn = pm_do c sc' rk ins nx ax lv st u kg kr kn := by
  cases ins
  case iaload => cases h
  case arraylength => cases h
  case baload => exact pm_ald_ns (sc := sc) (sc' := sc') (t0 := 1) (st := st) (u := u) (kg := fun v st => kg nx lv (v :: st) u) (kn := kn) rfl
  case aaload => exact pm_ald_ns (sc := sc) (sc' := sc') (t0 := 2) (st := st) (u := u) (kg := fun v st => kg nx lv (v :: st) u) (kn := kn) rfl
  all_goals rfl
def pm_nsc (cd : pm_Cd) : Bool := cd.all (fun ch => ch.all (fun row => pm_ns row.2.1))
theorem pm_loop_ns (h : pm_nsc cd = true) : ∀ (f pc : Nat) (lv : pm_Lv) (st : List pm_V) (u : pm_S), pm_loop c sc rk cd f pc lv st u = pm_loop c sc' rk cd f pc lv st u
  | 0, _, _, _, _ => rfl
  | f + 1, pc, lv, st, u => by
    have ih : pm_loop c sc rk cd f = pm_loop c sc' rk cd f := by
      funext pc lv st u
      exact pm_loop_ns h f pc lv st u
    show pm_stp c sc rk cd pc lv st u (pm_loop c sc rk cd f) some none = pm_stp c sc' rk cd pc lv st u (pm_loop c sc' rk cd f) some none
    rw [ih]
    unfold pm_stp
    cases hf : pm_find cd pc with
    | none => rfl
    | some q =>
      obtain ⟨ins, nx, ax⟩ := q
      refine pm_do_ns ?_
      have hm := pm_look_mem _ _ _ hf
      unfold pm_nsc at h
      by_cases hl : pc / 16 < cd.length
      · rw [List.getD_eq_getElem?_getD, List.getElem?_eq_getElem hl] at hm
        exact List.all_eq_true.mp (List.all_eq_true.mp h _ (List.getElem_mem hl)) _ hm
      · rw [List.getD_eq_getElem?_getD, List.getElem?_eq_none (Nat.not_lt.mp hl)] at hm
        cases hm
end PMX
def pm_callF (T : Nat → pm_Cd × Nat) (sc : pm_Sc) (F : Nat) : Nat → Nat → List pm_V → pm_S → Option pm_Rs
  | 0, mi, av, u => pm_loop (fun _ _ _ => none) sc (T mi).2 (T mi).1 F 0 (pm_args 0 av) [] u
  | d + 1, mi, av, u => pm_loop (pm_callF T sc F d) sc (T mi).2 (T mi).1 F 0 (pm_args 0 av) [] u
theorem pm_loop_nil {c : Nat → List pm_V → pm_S → Option pm_Rs} {sc : pm_Sc} {rk : Nat} : ∀ (f pc : Nat) (lv : pm_Lv) (st : List pm_V) (u : pm_S), pm_loop c sc rk [] f pc lv st u = none
  | 0, _, _, _, _ => rfl
  | _ + 1, _, _, _, _ => rfl
/-- a table with fewer methods, none of which sees the script -/
theorem pm_callF_ok {T T' : Nat → pm_Cd × Nat} {sc sc' : pm_Sc} {F : Nat} (hT : ∀ mi, T' mi = T mi ∨ T' mi = ([], 0)) (hn : ∀ mi, pm_nsc (T' mi).1 = true) : ∀ (d mi : Nat) (av : List pm_V) (u : pm_S) (r : pm_Rs), pm_callF T' sc' F d mi av u = some r → pm_call T sc d mi av u = some r
  | 0, mi, av, u, r, h => by
    have h1 : pm_loop (fun _ _ _ => none) sc (T' mi).2 (T' mi).1 F 0 (pm_args 0 av) [] u = some r := by
      rw [pm_loop_ns (sc' := sc') (hn mi)]
      exact h
    rcases hT mi with e | e
    · rw [e] at h1
      exact pm_ev_of h1
    · rw [e, pm_loop_nil] at h1
      cases h1
  | d + 1, mi, av, u, r, h => by
    have h1 : pm_loop (pm_callF T' sc' F d) sc (T' mi).2 (T' mi).1 F 0 (pm_args 0 av) [] u = some r := by
      rw [pm_loop_ns (sc' := sc') (hn mi)]
      exact h
    have h2 := pm_loop_mono (c' := pm_call T sc d) (fun mi av u r h => pm_callF_ok hT hn d mi av u r h) _ _ _ _ _ h1
    rcases hT mi with e | e
    · rw [e] at h2
      exact pm_ev_of h2
    · rw [e, pm_loop_nil] at h2
      cases h2

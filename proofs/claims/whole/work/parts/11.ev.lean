section PMR
variable {α β : Type} {R : α → β → Prop}
theorem pm_ite_rel {p : Prop} {hd : Decidable p} {a b : α} {a' b' : β} (ha : R a a') (hb : R b b') : R (@ite α p hd a b) (@ite β p hd a' b') := by
  by_cases h : p
  · rw [if_pos h, if_pos h]; exact ha
  · rw [if_neg h, if_neg h]; exact hb
theorem pm_bif_rel {x : Bool} {a b : α} {a' b' : β} (ha : R a a') (hb : R b b') : R (bif x then a else b) (bif x then a' else b') := by
  cases x
  · exact hb
  · exact ha
theorem pm_br_rel {cd : Jvm.ClassFile.Cond} {x : Int32} {a b : α} {a' b' : β} (ha : R a a') (hb : R b b') : R (pm_br cd x a b) (pm_br cd x a' b') := by
  cases cd <;> first | exact pm_ite_rel ha hb | exact pm_ite_rel hb ha
theorem pm_br2_rel {cd : Jvm.ClassFile.Cond} {x y : Int32} {a b : α} {a' b' : β} (ha : R a a') (hb : R b b') : R (pm_br2 cd x y a b) (pm_br2 cd x y a' b') := by
  cases cd <;> first | exact pm_ite_rel ha hb | exact pm_ite_rel hb ha
theorem pm_brb_rel {cd : Jvm.ClassFile.Cond} {x : Bool} {a b d : α} {a' b' d' : β} (ha : R a a') (hb : R b b') (hn : R d d') : R (pm_brb cd x a b d) (pm_brb cd x a' b' d') := by
  cases cd <;> first | exact pm_ite_rel ha hb | exact pm_ite_rel hb ha | exact hn
theorem pm_brb2_rel {cd : Jvm.ClassFile.Cond} {x y : Bool} {a b d : α} {a' b' d' : β} (ha : R a a') (hb : R b b') (hn : R d d') : R (pm_brb2 cd x y a b d) (pm_brb2 cd x y a' b' d') := by
  cases cd <;> first | exact pm_ite_rel ha hb | exact pm_ite_rel hb ha | exact hn
theorem pm_sw_rel {x : Int32} {kg : Nat → α} {kg' : Nat → β} (h : ∀ pc, R (kg pc) (kg' pc)) (d : Nat) : ∀ (ts : List Nat) (v : Nat), R (pm_sw x kg d ts v) (pm_sw x kg' d ts v)
  | [], _ => h d
  | t :: ts, v => pm_ite_rel (h t) (pm_sw_rel h d ts (v + 1))
theorem pm_call1_rel {kg : Option pm_V → pm_S → α} {kg' : Option pm_V → pm_S → β} {kn : α} {kn' : β} {r : Option pm_Rs} (h : ∀ v u, R (kg v u) (kg' v u)) (hn : R kn kn') : R (pm_call1 kg kn r) (pm_call1 kg' kn' r) := by
  rcases r with _ | ⟨v, u⟩
  · exact hn
  · exact h v u
theorem pm_put_rel {ty k j : Nat} {v : pm_V} {u : pm_S} {kg : pm_S → α} {kg' : pm_S → β} {kn : α} {kn' : β} (h : ∀ u, R (kg u) (kg' u)) (hn : R kn kn') : R (pm_put ty k j v u kg kn) (pm_put ty k j v u kg' kn') := by
  rcases ty with _ | _ | _ | ty <;> rcases v with x | b | (_ | q) | _ <;> first | exact hn | exact h _ | exact pm_ite_rel (h _) (pm_ite_rel (h _) hn)
theorem pm_iret_rel {rk : Nat} {st : List pm_V} {u : pm_S} {kr : pm_Rs → α} {kr' : pm_Rs → β} {kn : α} {kn' : β} (h : ∀ r, R (kr r) (kr' r)) (hn : R kn kn') : R (pm_iret rk st u kr kn) (pm_iret rk st u kr' kn') := by
  rcases rk with _ | _ | _ | rk <;> rcases st with _ | ⟨x | b | (_ | q) | _, _ | ⟨v2, st⟩⟩ <;> first | exact hn | exact h _ | exact pm_ite_rel (h _) (pm_ite_rel (h _) hn)
theorem pm_ld_rel {v : Option pm_V} {kg : pm_V → α} {kg' : pm_V → β} {kn : α} {kn' : β} (h : ∀ v, R (kg v) (kg' v)) (hn : R kn kn') : R (pm_ld v kg kn) (pm_ld v kg' kn') := by
  rcases v with _ | x | b | q <;> first | exact hn | exact h _
theorem pm_la_rel {v : Option pm_V} {kg : pm_V → α} {kg' : pm_V → β} {kn : α} {kn' : β} (h : ∀ v, R (kg v) (kg' v)) (hn : R kn kn') : R (pm_la v kg kn) (pm_la v kg' kn') := by
  rcases v with _ | x | b | q <;> first | exact hn | exact h _
theorem pm_si_rel {st : List pm_V} {kg : pm_V → List pm_V → α} {kg' : pm_V → List pm_V → β} {kn : α} {kn' : β} (h : ∀ v st, R (kg v st) (kg' v st)) (hn : R kn kn') : R (pm_si st kg kn) (pm_si st kg' kn') := by
  rcases st with _ | ⟨x | b | q, st⟩ <;> first | exact hn | exact h _ _
theorem pm_sa_rel {st : List pm_V} {kg : pm_V → List pm_V → α} {kg' : pm_V → List pm_V → β} {kn : α} {kn' : β} (h : ∀ v st, R (kg v st) (kg' v st)) (hn : R kn kn') : R (pm_sa st kg kn) (pm_sa st kg' kn') := by
  rcases st with _ | ⟨x | b | q, st⟩ <;> first | exact hn | exact h _ _
theorem pm_op2_rel {st : List pm_V} {kg : Int32 → Int32 → List pm_V → α} {kg' : Int32 → Int32 → List pm_V → β} {kn : α} {kn' : β} (h : ∀ x y st, R (kg x y st) (kg' x y st)) (hn : R kn kn') : R (pm_op2 st kg kn) (pm_op2 st kg' kn') := by
  rcases st with _ | ⟨y | b, _ | ⟨x | b2, st⟩⟩ <;> first | exact hn | exact h _ _ _
theorem pm_obj_rel {n : Nat} {st : List pm_V} {kg : Nat → Nat → List pm_V → α} {kg' : Nat → Nat → List pm_V → β} {kn : α} {kn' : β} (h : ∀ k ci st, R (kg k ci st) (kg' k ci st)) (hn : R kn kn') : R (pm_obj n st kg kn) (pm_obj n st kg' kn') := by
  rcases st with _ | ⟨x | b | (_ | k) | z, st⟩
  · exact hn
  · exact hn
  · exact hn
  · exact hn
  · show R (match pm_cls n k with | some ci => kg k ci st | none => kn) (match pm_cls n k with | some ci => kg' k ci st | none => kn')
    cases pm_cls n k with
    | none => exact hn
    | some ci => exact h _ _ _
  · exact hn
theorem pm_ald_rel {sc : pm_Sc} {t0 : Nat} {st : List pm_V} {u : pm_S} {kg : pm_V → List pm_V → α} {kg' : pm_V → List pm_V → β} {kn : α} {kn' : β} (h : ∀ v st, R (kg v st) (kg' v st)) (hn : R kn kn') : R (pm_ald sc t0 st u kg kn) (pm_ald sc t0 st u kg' kn') := by
  rcases st with _ | ⟨i | v, _ | ⟨x | b | (_ | k) | z, st⟩⟩ <;> first | exact hn | exact pm_bif_rel (h _ _) hn | skip
  show R (match pm_arr u.1 k with | some (t, len) => _ | none => kn) (match pm_arr u.1 k with | some (t, len) => _ | none => kn')
  rcases pm_arr u.1 k with _ | ⟨t, len⟩
  · exact hn
  · exact pm_bif_rel (h _ _) hn
theorem pm_ast_rel {t0 : Nat} {st : List pm_V} {u : pm_S} {kg : List pm_V → pm_S → α} {kg' : List pm_V → pm_S → β} {kn : α} {kn' : β} (h : ∀ st u, R (kg st u) (kg' st u)) (hn : R kn kn') : R (pm_ast t0 st u kg kn) (pm_ast t0 st u kg' kn') := by
  rcases st with _ | ⟨v, _ | ⟨i | i, _ | ⟨x | b | (_ | k) | z, st⟩⟩⟩ <;> first | exact hn | skip
  show R (match pm_arr u.1 k with | some (t, len) => _ | none => kn) (match pm_arr u.1 k with | some (t, len) => _ | none => kn')
  rcases pm_arr u.1 k with _ | ⟨t, len⟩
  · exact hn
  · exact pm_bif_rel (pm_put_rel (fun u => h _ u) hn) hn
theorem pm_asta_rel {st : List pm_V} {u : pm_S} {kg : List pm_V → pm_S → α} {kg' : List pm_V → pm_S → β} {kn : α} {kn' : β} (h : ∀ st u, R (kg st u) (kg' st u)) (hn : R kn kn') : R (pm_asta st u kg kn) (pm_asta st u kg' kn') := by
  rcases st with _ | ⟨y | d | (_ | q) | w, _ | ⟨i | i, _ | ⟨x | b | (_ | k) | z, st⟩⟩⟩ <;> first | exact hn | skip
  show R (match pm_arr u.1 k, pm_cls u.1 q with | some (t, len), some ci => _ | _, _ => kn) (match pm_arr u.1 k, pm_cls u.1 q with | some (t, len), some ci => _ | _, _ => kn')
  rcases pm_arr u.1 k with _ | ⟨t, len⟩ <;> rcases pm_cls u.1 q with _ | ci <;> first | exact hn | exact pm_bif_rel (h _ _) hn
theorem pm_new_rel {d : pm_Kd} {st : List pm_V} {u : pm_S} {kg : List pm_V → pm_S → α} {kg' : List pm_V → pm_S → β} {kn : α} {kn' : β} (h : ∀ st u, R (kg st u) (kg' st u)) (hn : R kn kn') : R (pm_new d st u kg kn) (pm_new d st u kg' kn') := by
  unfold pm_new
  rcases pm_kd u.1 with _ | a | ⟨a, x⟩ <;> rcases d with b | ⟨b, y⟩ <;> first | exact hn | exact pm_bif_rel (h _ _) hn
variable {c : Nat → List pm_V → pm_S → Option pm_Rs} {sc : pm_Sc} {rk : Nat}
/-- two runs of one step, with continuations that stand in R, stand in R -/
theorem pm_do_rel {ins : Jvm.ClassFile.Instr} {nx : Nat} {ax : List Nat} {lv : pm_Lv} {st : List pm_V} {u : pm_S} {kg : Nat → pm_Lv → List pm_V → pm_S → α} {kg' : Nat → pm_Lv → List pm_V → pm_S → β} {kr : pm_Rs → α} {kr' : pm_Rs → β} {kn : α} {kn' : β}
    (h : ∀ pc lv st u, R (kg pc lv st u) (kg' pc lv st u)) (hr : ∀ r, R (kr r) (kr' r)) (hn : R kn kn') : R (pm_do c sc rk ins nx ax lv st u kg kr kn) (pm_do c sc rk ins nx ax lv st u kg' kr' kn') := by
  cases ins
  case iload_n k => (simp only [pm_do]; exact pm_ld_rel (fun _ => h _ _ _ _) hn)
  case iload k => (simp only [pm_do]; exact pm_ld_rel (fun _ => h _ _ _ _) hn)
  case aload_n k => (simp only [pm_do]; exact pm_la_rel (fun _ => h _ _ _ _) hn)
  case aload k => (simp only [pm_do]; exact pm_la_rel (fun _ => h _ _ _ _) hn)
  case istore_n k => (simp only [pm_do]; exact pm_si_rel (fun _ _ => h _ _ _ _) hn)
  case istore k => (simp only [pm_do]; exact pm_si_rel (fun _ _ => h _ _ _ _) hn)
  case astore_n k => (simp only [pm_do]; exact pm_sa_rel (fun _ _ => h _ _ _ _) hn)
  case astore k => (simp only [pm_do]; exact pm_sa_rel (fun _ _ => h _ _ _ _) hn)
  case iinc i n =>
    show R (match pm_lget lv i with | some (.inl x) => kg nx (pm_lset lv i (.inl (x + Int32.ofInt n))) st u | _ => kn) (match pm_lget lv i with | some (.inl x) => kg' nx (pm_lset lv i (.inl (x + Int32.ofInt n))) st u | _ => kn')
    rcases pm_lget lv i with _ | x | b <;> first | exact hn | exact h _ _ _ _
  case iadd => exact pm_op2_rel (fun _ _ _ => h _ _ _ _) hn
  case isub => exact pm_op2_rel (fun _ _ _ => h _ _ _ _) hn
  case imul => exact pm_op2_rel (fun _ _ _ => h _ _ _ _) hn
  case iand => exact pm_op2_rel (fun _ _ _ => h _ _ _ _) hn
  case ior => exact pm_op2_rel (fun _ _ _ => h _ _ _ _) hn
  case ishl => exact pm_op2_rel (fun _ _ _ => h _ _ _ _) hn
  case ishr => exact pm_op2_rel (fun _ _ _ => h _ _ _ _) hn
  case idiv => exact pm_op2_rel (fun _ _ _ => pm_ite_rel hn (h _ _ _ _)) hn
  case irem => exact pm_op2_rel (fun _ _ _ => pm_ite_rel hn (h _ _ _ _)) hn
  case dup => rcases st with _ | ⟨v, st⟩ <;> first | exact hn | exact h _ _ _ _
  case dup2 => rcases st with _ | ⟨v, _ | ⟨w, st⟩⟩ <;> first | exact hn | exact h _ _ _ _
  case ifCond cd off => rcases st with _ | ⟨x | b | q, st⟩ <;> first | exact hn | exact pm_br_rel (h _ _ _ _) (h _ _ _ _) | exact pm_brb_rel (h _ _ _ _) (h _ _ _ _) hn
  case if_icmp cd off => rcases st with _ | ⟨y | y | q, _ | ⟨x | x | q2, st⟩⟩ <;> first | exact hn | exact pm_br2_rel (h _ _ _ _) (h _ _ _ _) | exact pm_brb2_rel (h _ _ _ _) (h _ _ _ _) hn
  case getfield i => rcases ax with _ | ⟨j, _ | ⟨ty, cis⟩⟩ <;> first | exact hn | exact pm_obj_rel (fun _ _ _ => pm_bif_rel (h _ _ _ _) hn) hn
  case putfield i => rcases ax with _ | ⟨j, _ | ⟨ty, _ | ⟨fi, cis⟩⟩⟩ <;> rcases st with _ | ⟨v, st⟩ <;> first | exact hn | exact pm_obj_rel (fun _ _ _ => pm_bif_rel (pm_put_rel (fun _ => h _ _ _ _) hn) hn) hn
  case iaload => exact pm_ald_rel (fun _ _ => h _ _ _ _) hn
  case baload => exact pm_ald_rel (fun _ _ => h _ _ _ _) hn
  case aaload => exact pm_ald_rel (fun _ _ => h _ _ _ _) hn
  case iastore => exact pm_ast_rel (fun _ _ => h _ _ _ _) hn
  case bastore => exact pm_ast_rel (fun _ _ => h _ _ _ _) hn
  case aastore => exact pm_asta_rel (fun _ _ => h _ _ _ _) hn
  case arraylength => rcases st with _ | ⟨x | b | q | z, st⟩ <;> first | exact hn | exact h _ _ _ _
  case new i => rcases ax with _ | ⟨ci, ax⟩ <;> first | exact hn | exact pm_new_rel (fun _ _ => h _ _ _ _) hn
  case newarray a => rcases ax with _ | ⟨t, _ | ⟨t2, ax⟩⟩ <;> rcases st with _ | ⟨x | b, st⟩ <;> first | exact hn | exact pm_bif_rel (pm_new_rel (fun _ _ => h _ _ _ _) hn) hn
  case anewarray a => rcases ax with _ | ⟨t, _ | ⟨t2, ax⟩⟩ <;> rcases st with _ | ⟨x | b, st⟩ <;> first | exact hn | exact pm_bif_rel (pm_new_rel (fun _ _ => h _ _ _ _) hn) hn
  case invokevirtual i =>
    rcases ax with _ | ⟨na, _ | ⟨xn, ps⟩⟩ <;> first | exact hn | skip
    show R (match pm_pop na [] st with | some (as, st) => _ | none => kn) (match pm_pop na [] st with | some (as, st) => _ | none => kn')
    rcases pm_pop na [] st with _ | ⟨as, st⟩
    · exact hn
    · refine pm_obj_rel (fun k ci st => ?_) hn
      show R (match pm_pair ps ci with | some mi => _ | none => kn) (match pm_pair ps ci with | some mi => _ | none => kn')
      rcases pm_pair ps ci with _ | mi
      · exact hn
      · exact pm_bif_rel (pm_call1_rel (fun _ _ => h _ _ _ _) hn) hn
  case invokespecial i =>
    rcases ax with _ | ⟨na, _ | ⟨mi, ax⟩⟩
    · rcases st with _ | ⟨x | b | (_ | k) | z, st⟩ <;> first | exact hn | exact pm_bif_rel (h _ _ _ _) hn
    · exact hn
    · show R (match pm_pop na [] st with | some (as, .inr (.inr (.inl (some k))) :: st) => _ | _ => kn) (match pm_pop na [] st with | some (as, .inr (.inr (.inl (some k))) :: st) => _ | _ => kn')
      rcases pm_pop na [] st with _ | ⟨as, _ | ⟨x | b | (_ | k) | z, st⟩⟩ <;> first | exact hn | exact pm_bif_rel (pm_call1_rel (fun _ _ => h _ _ _ _) hn) hn
  case invokestatic i =>
    rcases ax with _ | ⟨na, _ | ⟨mi, ax⟩⟩
    · exact hn
    · rcases na with _ | _ | na <;> first | exact hn | exact pm_op2_rel (fun _ _ _ => pm_bif_rel (h _ _ _ _) hn) hn
    · have key : R (match pm_pop na [] st with | some (as, st) => pm_gd st (pm_call1 (fun v u => kg nx lv (v.toList ++ st) u) kn (c mi as u)) kn | none => kn) (match pm_pop na [] st with | some (as, st) => pm_gd st (pm_call1 (fun v u => kg' nx lv (v.toList ++ st) u) kn' (c mi as u)) kn' | none => kn') := by
        rcases pm_pop na [] st with _ | ⟨as, st⟩
        · exact hn
        · exact pm_bif_rel (pm_call1_rel (fun _ _ => h _ _ _ _) hn) hn
      rcases na with _ | _ | na <;> exact key
  case tableswitch d lo hi offs => rcases ax with _ | ⟨d, ts⟩ <;> rcases st with _ | ⟨x | b, st⟩ <;> first | exact hn | exact pm_sw_rel (fun _ => h _ _ _ _) _ _ _
  case ireturn => exact pm_iret_rel hr hn
  case areturn => rcases rk with _ | _ | _ | _ | rk <;> rcases st with _ | ⟨x | b | q | z, _ | ⟨v2, st⟩⟩ <;> first | exact hn | exact hr _
  case return_ => rcases rk with _ | rk <;> rcases st with _ | ⟨x, st⟩ <;> first | exact hn | exact hr _
  all_goals first | exact h _ _ _ _ | exact hn
theorem pm_stp_rel {cd : pm_Cd} {pc : Nat} {lv : pm_Lv} {st : List pm_V} {u : pm_S} {kg : Nat → pm_Lv → List pm_V → pm_S → α} {kg' : Nat → pm_Lv → List pm_V → pm_S → β} {kr : pm_Rs → α} {kr' : pm_Rs → β} {kn : α} {kn' : β}
    (h : ∀ pc lv st u, R (kg pc lv st u) (kg' pc lv st u)) (hr : ∀ r, R (kr r) (kr' r)) (hn : R kn kn') : R (pm_stp c sc rk cd pc lv st u kg kr kn) (pm_stp c sc rk cd pc lv st u kg' kr' kn') := by
  unfold pm_stp
  rcases pm_find cd pc with _ | ⟨ins, nx, ax⟩
  · exact hn
  · exact pm_do_rel h hr hn
end PMR
section PME
variable (c : Nat → List pm_V → pm_S → Option pm_Rs) (sc : pm_Sc) (rk : Nat) (cd : pm_Cd)
def pm_loop : Nat → Nat → pm_Lv → List pm_V → pm_S → Option pm_Rs
  | 0, _, _, _, _ => none
  | f + 1, pc, lv, st, u => pm_stp c sc rk cd pc lv st u (pm_loop f) some none
noncomputable def pm_ev (pc : Nat) (lv : pm_Lv) (st : List pm_V) (u : pm_S) : Option pm_Rs := @dite _ (∃ f r, pm_loop c sc rk cd f pc lv st u = some r) (Classical.propDecidable _) (fun h => pm_loop c sc rk cd (Classical.choose h) pc lv st u) (fun _ => none)
end PME
section PMF
variable {c : Nat → List pm_V → pm_S → Option pm_Rs} {sc : pm_Sc} {rk : Nat} {cd : pm_Cd}
theorem pm_loop_up {r : pm_Rs} : ∀ (f : Nat) (pc : Nat) (lv : pm_Lv) (st : List pm_V) (u : pm_S), pm_loop c sc rk cd f pc lv st u = some r → pm_loop c sc rk cd (f + 1) pc lv st u = some r
  | 0, _, _, _, _, h => by cases h
  | f + 1, pc, lv, st, u, h => by
    revert h
    exact pm_stp_rel (R := fun a b => a = some r → b = some r) (fun pc lv st u => pm_loop_up f pc lv st u) (fun _ h => h) (fun h => h)
theorem pm_loop_le {r : pm_Rs} {f g : Nat} (hfg : f ≤ g) {pc : Nat} {lv : pm_Lv} {st : List pm_V} {u : pm_S} (h : pm_loop c sc rk cd f pc lv st u = some r) : pm_loop c sc rk cd g pc lv st u = some r := by
  induction hfg with
  | refl => exact h
  | step _ ih => exact pm_loop_up _ _ _ _ _ ih
theorem pm_ev_of {r : pm_Rs} {f pc : Nat} {lv : pm_Lv} {st : List pm_V} {u : pm_S} (h : pm_loop c sc rk cd f pc lv st u = some r) : pm_ev c sc rk cd pc lv st u = some r := by
  have he : ∃ f r, pm_loop c sc rk cd f pc lv st u = some r := ⟨f, r, h⟩
  unfold pm_ev
  rw [dif_pos he]
  obtain ⟨r', hr'⟩ := Classical.choose_spec he
  have h1 := pm_loop_le (Nat.le_max_left (Classical.choose he) f) hr'
  have h2 := pm_loop_le (Nat.le_max_right (Classical.choose he) f) h
  rw [h1] at h2
  rw [hr', h2]
theorem pm_ev_some {r : pm_Rs} {pc : Nat} {lv : pm_Lv} {st : List pm_V} {u : pm_S} (h : pm_ev c sc rk cd pc lv st u = some r) : ∃ f, pm_loop c sc rk cd f pc lv st u = some r := by
  unfold pm_ev at h
  by_cases he : ∃ f r, pm_loop c sc rk cd f pc lv st u = some r
  · rw [dif_pos he] at h
    exact ⟨_, h⟩
  · rw [dif_neg he] at h
    cases h
/-- one step on -/
theorem pm_ev_step (pc : Nat) (lv : pm_Lv) (st : List pm_V) (u : pm_S) : pm_ev c sc rk cd pc lv st u = pm_stp c sc rk cd pc lv st u (pm_ev c sc rk cd) some none := by
  have key : ∀ f, pm_loop c sc rk cd f = fun pc lv st u => pm_loop c sc rk cd f pc lv st u := fun _ => rfl
  -- the step, as data
  have hd : ∀ (γ : Type) (kg : Nat → pm_Lv → List pm_V → pm_S → γ) (kr : pm_Rs → γ) (kn : γ), pm_stp c sc rk cd pc lv st u kg kr kn = (match pm_stp (α := pm_St ⊕ Option pm_Rs) c sc rk cd pc lv st u (fun pc lv st u => .inl (pc, lv, st, u)) (fun r => .inr (some r)) (.inr none) with
      | .inl (pc, lv, st, u) => kg pc lv st u
      | .inr (some r) => kr r
      | .inr none => kn) := by
    intro γ kg kr kn
    exact pm_stp_rel (R := fun (a : γ) (t : pm_St ⊕ Option pm_Rs) => a = (match t with | .inl (pc, lv, st, u) => kg pc lv st u | .inr (some r) => kr r | .inr none => kn)) (fun _ _ _ _ => rfl) (fun _ => rfl) rfl
  have hl : ∀ f, pm_loop c sc rk cd (f + 1) pc lv st u = pm_stp c sc rk cd pc lv st u (pm_loop c sc rk cd f) some none := fun _ => rfl
  rw [hd]
  rcases ht : pm_stp (α := pm_St ⊕ Option pm_Rs) c sc rk cd pc lv st u (fun pc lv st u => .inl (pc, lv, st, u)) (fun r => .inr (some r)) (.inr none) with ⟨pc', lv', st', u'⟩ | _ | r
  · have h1 : ∀ f, pm_loop c sc rk cd (f + 1) pc lv st u = pm_loop c sc rk cd f pc' lv' st' u' := fun f => by rw [hl, hd, ht]
    show pm_ev c sc rk cd pc lv st u = pm_ev c sc rk cd pc' lv' st' u'
    cases hv : pm_ev c sc rk cd pc' lv' st' u' with
    | some r =>
      obtain ⟨f, hf⟩ := pm_ev_some hv
      exact pm_ev_of (f := f + 1) (by rw [h1]; exact hf)
    | none =>
      cases hw : pm_ev c sc rk cd pc lv st u with
      | none => rfl
      | some r =>
        obtain ⟨f, hf⟩ := pm_ev_some hw
        have hf1 := pm_loop_up _ _ _ _ _ hf
        rw [h1] at hf1
        rw [pm_ev_of hf1] at hv
        cases hv
  · show pm_ev c sc rk cd pc lv st u = none
    cases hw : pm_ev c sc rk cd pc lv st u with
    | none => rfl
    | some r =>
      obtain ⟨f, hf⟩ := pm_ev_some hw
      have hf1 := pm_loop_up _ _ _ _ _ hf
      rw [hl, hd, ht] at hf1
      cases hf1
  · show pm_ev c sc rk cd pc lv st u = some r
    exact pm_ev_of (f := 1) (by rw [hl, hd, ht])
/-- k steps on -/
theorem pm_ev_iter (cut : List Nat) : ∀ (k : Nat) (pc : Nat) (lv : pm_Lv) (st : List pm_V) (u : pm_S), pm_ev c sc rk cd pc lv st u = pm_iter c sc rk cd cut k pc lv st u (pm_ev c sc rk cd) some none
  | 0, _, _, _, _ => rfl
  | k + 1, pc, lv, st, u => by
    rw [pm_ev_step]
    show _ = pm_stp c sc rk cd pc lv st u (fun pc lv st u => bif cut.any (Nat.beq pc) then pm_ev c sc rk cd pc lv st u else pm_iter c sc rk cd cut k pc lv st u (pm_ev c sc rk cd) some none) some none
    refine pm_stp_rel (R := fun a b => a = b) (fun pc lv st u => ?_) (fun _ => rfl) rfl
    cases cut.any (Nat.beq pc)
    · exact pm_ev_iter cut k pc lv st u
    · rfl
end PMF
def pm_args : Nat → List pm_V → pm_Lv
  | _, [] => []
  | i, v :: vs => (i, v) :: pm_args (i + 1) vs
/-- the machine's calls, to a depth; T: code and kind of answer of each method -/
noncomputable def pm_call (T : Nat → pm_Cd × Nat) (sc : pm_Sc) : Nat → Nat → List pm_V → pm_S → Option pm_Rs
  | 0, mi, av, u => pm_ev (fun _ _ _ => none) sc (T mi).2 (T mi).1 0 (pm_args 0 av) [] u
  | d + 1, mi, av, u => pm_ev (pm_call T sc d) sc (T mi).2 (T mi).1 0 (pm_args 0 av) [] u
/-! places never go away -/
section PMN
variable {c : Nat → List pm_V → pm_S → Option pm_Rs} {sc : pm_Sc} {rk : Nat} {cd : pm_Cd}
theorem pm_put_n {ty k j : Nat} {v : pm_V} {u : pm_S} {kg : pm_S → Prop} {kn : Prop} (h : ∀ u' : pm_S, u'.1 = u.1 → kg u') (hn : kn) : pm_put ty k j v u kg kn := by
  rcases ty with _ | _ | _ | ty <;> rcases v with x | b | (_ | q) | _ <;> first | exact hn | exact h _ rfl | skip
  show if x = 0 then _ else if x = 1 then _ else _
  split
  · exact h _ rfl
  · split
    · exact h _ rfl
    · exact hn
theorem pm_bif_t {x : Bool} {a b : Prop} (ha : a) (hb : b) : (bif x then a else b) := by
  cases x
  · exact hb
  · exact ha
theorem pm_ite_t {p : Prop} {hd : Decidable p} {a b : Prop} (ha : a) (hb : b) : @ite Prop p hd a b := by
  by_cases h : p
  · rw [if_pos h]; exact ha
  · rw [if_neg h]; exact hb
theorem pm_do_all {P : pm_S → Prop} {ins : Jvm.ClassFile.Instr} {nx : Nat} {ax : List Nat} {lv : pm_Lv} {st : List pm_V} {u : pm_S} (h1 : ∀ u' : pm_S, u'.1 = u.1 → P u') (h2 : P (pm_made u)) (h3 : ∀ mi av v u', c mi av u = some (v, u') → P u') : pm_do c sc rk ins nx ax lv st u (fun _ _ _ u' => P u') (fun r => P r.2) True := by
  have h0 : P u := h1 u rfl
  have hc : ∀ mi av, pm_call1 (fun (_ : Option pm_V) u' => P u') True (c mi av u) := by
    intro mi av
    cases hcm : c mi av u with
    | none => exact trivial
    | some q => exact h3 mi av q.1 q.2 hcm
  have hnew : ∀ (d : pm_Kd) (st : List pm_V), pm_new d st u (fun _ u' => P u') True := by
    intro d st
    unfold pm_new
    rcases pm_kd u.1 with _ | a | ⟨a, x⟩ <;> rcases d with b | ⟨b, y⟩ <;> first | exact trivial | exact pm_bif_t h2 trivial
  have hobj : ∀ (st : List pm_V) (kg : Nat → Nat → List pm_V → Prop), (∀ k ci st, kg k ci st) → pm_obj u.1 st kg True := fun st kg h => pm_obj_rel (R := fun (_ : Unit) (p : Prop) => p) (kg := fun _ _ _ => ()) (kn := ()) h trivial
  cases ins
  case iload_n k => exact pm_ld_rel (R := fun (_ : Unit) (p : Prop) => p) (kg := fun _ => ()) (kn := ()) (fun _ => h0) trivial
  case iload k => exact pm_ld_rel (R := fun (_ : Unit) (p : Prop) => p) (kg := fun _ => ()) (kn := ()) (fun _ => h0) trivial
  case aload_n k => exact pm_la_rel (R := fun (_ : Unit) (p : Prop) => p) (kg := fun _ => ()) (kn := ()) (fun _ => h0) trivial
  case aload k => exact pm_la_rel (R := fun (_ : Unit) (p : Prop) => p) (kg := fun _ => ()) (kn := ()) (fun _ => h0) trivial
  case istore_n k => exact pm_si_rel (R := fun (_ : Unit) (p : Prop) => p) (kg := fun _ _ => ()) (kn := ()) (fun _ _ => h0) trivial
  case istore k => exact pm_si_rel (R := fun (_ : Unit) (p : Prop) => p) (kg := fun _ _ => ()) (kn := ()) (fun _ _ => h0) trivial
  case astore_n k => exact pm_sa_rel (R := fun (_ : Unit) (p : Prop) => p) (kg := fun _ _ => ()) (kn := ()) (fun _ _ => h0) trivial
  case astore k => exact pm_sa_rel (R := fun (_ : Unit) (p : Prop) => p) (kg := fun _ _ => ()) (kn := ()) (fun _ _ => h0) trivial
  case iinc i n =>
    show (match pm_lget lv i with | some (.inl x) => P u | _ => True)
    rcases pm_lget lv i with _ | x | b <;> first | exact trivial | exact h0
  case iadd => exact pm_op2_rel (R := fun (_ : Unit) (p : Prop) => p) (kg := fun _ _ _ => ()) (kn := ()) (fun _ _ _ => h0) trivial
  case isub => exact pm_op2_rel (R := fun (_ : Unit) (p : Prop) => p) (kg := fun _ _ _ => ()) (kn := ()) (fun _ _ _ => h0) trivial
  case imul => exact pm_op2_rel (R := fun (_ : Unit) (p : Prop) => p) (kg := fun _ _ _ => ()) (kn := ()) (fun _ _ _ => h0) trivial
  case iand => exact pm_op2_rel (R := fun (_ : Unit) (p : Prop) => p) (kg := fun _ _ _ => ()) (kn := ()) (fun _ _ _ => h0) trivial
  case ior => exact pm_op2_rel (R := fun (_ : Unit) (p : Prop) => p) (kg := fun _ _ _ => ()) (kn := ()) (fun _ _ _ => h0) trivial
  case ishl => exact pm_op2_rel (R := fun (_ : Unit) (p : Prop) => p) (kg := fun _ _ _ => ()) (kn := ()) (fun _ _ _ => h0) trivial
  case ishr => exact pm_op2_rel (R := fun (_ : Unit) (p : Prop) => p) (kg := fun _ _ _ => ()) (kn := ()) (fun _ _ _ => h0) trivial
  case idiv => exact pm_op2_rel (R := fun (_ : Unit) (p : Prop) => p) (kg := fun _ _ _ => ()) (kn := ()) (fun _ _ _ => pm_ite_t trivial h0) trivial
  case irem => exact pm_op2_rel (R := fun (_ : Unit) (p : Prop) => p) (kg := fun _ _ _ => ()) (kn := ()) (fun _ _ _ => pm_ite_t trivial h0) trivial
  case dup => rcases st with _ | ⟨v, st⟩ <;> first | exact trivial | exact h0
  case dup2 => rcases st with _ | ⟨v, _ | ⟨w, st⟩⟩ <;> first | exact trivial | exact h0
  case ifCond cd off => rcases st with _ | ⟨x | b | q, st⟩ <;> first | exact trivial | exact pm_br_rel (R := fun (_ : Unit) (p : Prop) => p) (a := ()) (b := ()) h0 h0 | exact pm_brb_rel (R := fun (_ : Unit) (p : Prop) => p) (a := ()) (b := ()) (d := ()) h0 h0 trivial
  case if_icmp cd off => rcases st with _ | ⟨y | y | q, _ | ⟨x | x | q2, st⟩⟩ <;> first | exact trivial | exact pm_br2_rel (R := fun (_ : Unit) (p : Prop) => p) (a := ()) (b := ()) h0 h0 | exact pm_brb2_rel (R := fun (_ : Unit) (p : Prop) => p) (a := ()) (b := ()) (d := ()) h0 h0 trivial
  case getfield i => rcases ax with _ | ⟨j, _ | ⟨ty, cis⟩⟩ <;> first | exact trivial | exact hobj _ _ (fun _ _ _ => pm_bif_t h0 trivial)
  case putfield i => rcases ax with _ | ⟨j, _ | ⟨ty, _ | ⟨fi, cis⟩⟩⟩ <;> rcases st with _ | ⟨v, st⟩ <;> first | exact trivial | exact hobj _ _ (fun _ _ _ => pm_bif_t (pm_put_n h1 trivial) trivial)
  case iaload => exact pm_ald_rel (R := fun (_ : Unit) (p : Prop) => p) (kg := fun _ _ => ()) (kn := ()) (fun _ _ => h0) trivial
  case baload => exact pm_ald_rel (R := fun (_ : Unit) (p : Prop) => p) (kg := fun _ _ => ()) (kn := ()) (fun _ _ => h0) trivial
  case aaload => exact pm_ald_rel (R := fun (_ : Unit) (p : Prop) => p) (kg := fun _ _ => ()) (kn := ()) (fun _ _ => h0) trivial
  case iastore =>
    rcases st with _ | ⟨v, _ | ⟨i | i, _ | ⟨x | b | (_ | k) | z, st⟩⟩⟩ <;> first | exact trivial | skip
    show (match pm_arr u.1 k with | some (t, len) => _ | none => True)
    rcases pm_arr u.1 k with _ | ⟨t, len⟩
    · exact trivial
    · exact pm_bif_t (pm_put_n h1 trivial) trivial
  case bastore =>
    rcases st with _ | ⟨v, _ | ⟨i | i, _ | ⟨x | b | (_ | k) | z, st⟩⟩⟩ <;> first | exact trivial | skip
    show (match pm_arr u.1 k with | some (t, len) => _ | none => True)
    rcases pm_arr u.1 k with _ | ⟨t, len⟩
    · exact trivial
    · exact pm_bif_t (pm_put_n h1 trivial) trivial
  case aastore =>
    rcases st with _ | ⟨y | d | (_ | q) | w, _ | ⟨i | i, _ | ⟨x | b | (_ | k) | z, st⟩⟩⟩ <;> first | exact trivial | skip
    show (match pm_arr u.1 k, pm_cls u.1 q with | some (t, len), some ci => _ | _, _ => True)
    rcases pm_arr u.1 k with _ | ⟨t, len⟩ <;> rcases pm_cls u.1 q with _ | ci <;> first | exact trivial | exact pm_bif_t (h1 _ rfl) trivial
  case arraylength => rcases st with _ | ⟨x | b | q | z, st⟩ <;> first | exact trivial | exact h0
  case new i => rcases ax with _ | ⟨ci, ax⟩ <;> first | exact trivial | (simp only [pm_do]; exact hnew (.inl ci) st)
  case newarray a => rcases ax with _ | ⟨t, _ | ⟨t2, ax⟩⟩ <;> rcases st with _ | ⟨x | b, st⟩ <;> first | exact trivial | exact pm_bif_t (hnew _ _) trivial
  case anewarray a => rcases ax with _ | ⟨t, _ | ⟨t2, ax⟩⟩ <;> rcases st with _ | ⟨x | b, st⟩ <;> first | exact trivial | exact pm_bif_t (hnew _ _) trivial
  case invokevirtual i =>
    rcases ax with _ | ⟨na, _ | ⟨xn, ps⟩⟩ <;> first | exact trivial | skip
    show (match pm_pop na [] st with | some (as, st) => _ | none => True)
    rcases pm_pop na [] st with _ | ⟨as, st⟩
    · exact trivial
    · refine hobj _ _ (fun k ci st => ?_)
      show (match pm_pair ps ci with | some mi => _ | none => True)
      rcases pm_pair ps ci with _ | mi
      · exact trivial
      · exact pm_bif_t (hc _ _) trivial
  case invokespecial i =>
    rcases ax with _ | ⟨na, _ | ⟨mi, ax⟩⟩
    · rcases st with _ | ⟨x | b | (_ | k) | z, st⟩ <;> first | exact trivial | exact pm_bif_t h0 trivial
    · exact trivial
    · show (match pm_pop na [] st with | some (as, .inr (.inr (.inl (some k))) :: st) => _ | _ => True)
      rcases pm_pop na [] st with _ | ⟨as, _ | ⟨x | b | (_ | k) | z, st⟩⟩ <;> first | exact trivial | exact pm_bif_t (hc _ _) trivial
  case invokestatic i =>
    rcases ax with _ | ⟨na, _ | ⟨mi, ax⟩⟩
    · exact trivial
    · rcases na with _ | _ | na <;> first | exact trivial | exact pm_op2_rel (R := fun (_ : Unit) (p : Prop) => p) (kg := fun _ _ _ => ()) (kn := ()) (fun _ _ _ => pm_bif_t h0 trivial) trivial
    · have key : (match pm_pop na [] st with | some (as, st) => pm_gd st (pm_call1 (fun (_ : Option pm_V) u' => P u') True (c mi as u)) True | none => True) := by
        rcases pm_pop na [] st with _ | ⟨as, st⟩
        · exact trivial
        · exact pm_bif_t (hc _ _) trivial
      rcases na with _ | _ | na <;> exact key
  case tableswitch d lo hi offs => rcases ax with _ | ⟨d, ts⟩ <;> rcases st with _ | ⟨x | b, st⟩ <;> first | exact trivial | exact pm_sw_rel (R := fun (_ : Unit) (p : Prop) => p) (kg := fun _ => ()) (fun _ => h0) _ _ _
  case ireturn => rcases rk with _ | _ | _ | rk <;> rcases st with _ | ⟨x | b | (_ | q) | _, _ | ⟨v2, st⟩⟩ <;> first | exact trivial | exact h0 | exact pm_ite_t h0 (pm_ite_t h0 trivial)
  case areturn => rcases rk with _ | _ | _ | _ | rk <;> rcases st with _ | ⟨x | b | q | z, _ | ⟨v2, st⟩⟩ <;> first | exact trivial | exact h0
  case return_ => rcases rk with _ | rk <;> rcases st with _ | ⟨x, st⟩ <;> first | exact trivial | exact h0
  all_goals first | exact h0 | exact trivial
theorem pm_loop_n (hc : ∀ mi av u v u', c mi av u = some (v, u') → u.1 ≤ u'.1) {r : pm_Rs} : ∀ (f : Nat) (pc : Nat) (lv : pm_Lv) (st : List pm_V) (u : pm_S), pm_loop c sc rk cd f pc lv st u = some r → u.1 ≤ r.2.1
  | 0, _, _, _, _, h => by cases h
  | f + 1, pc, lv, st, u, h => by
    have hP : pm_stp c sc rk cd pc lv st u (fun _ _ _ u' => u.1 ≤ u'.1) (fun r => u.1 ≤ r.2.1) True := by
      unfold pm_stp
      rcases pm_find cd pc with _ | ⟨ins, nx, ax⟩
      · exact trivial
      · exact pm_do_all (P := fun u' => u.1 ≤ u'.1) (fun u' e => Nat.le_of_eq e.symm) (Nat.le_succ _) (fun mi av v u' hv => hc mi av u v u' hv)
    revert h hP
    exact pm_stp_rel (R := fun (a : Option pm_Rs) (p : Prop) => a = some r → p → u.1 ≤ r.2.1) (fun pc lv st u' h hP => Nat.le_trans hP (pm_loop_n hc f pc lv st u' h)) (fun r' h hP => by cases h; exact hP) (fun h => by cases h)
end PMN
theorem pm_call_n {T : Nat → pm_Cd × Nat} {sc : pm_Sc} : ∀ (d mi : Nat) (av : List pm_V) (u : pm_S) (v : Option pm_V) (u' : pm_S), pm_call T sc d mi av u = some (v, u') → u.1 ≤ u'.1
  | 0, mi, av, u, v, u', h => by
    obtain ⟨f, hf⟩ := pm_ev_some h
    exact pm_loop_n (r := (v, u')) (fun _ _ _ _ _ h => by cases h) f _ _ _ _ hf
  | d + 1, mi, av, u, v, u', h => by
    obtain ⟨f, hf⟩ := pm_ev_some h
    exact pm_loop_n (r := (v, u')) (fun mi av u v u' h => pm_call_n d mi av u v u' h) f _ _ _ _ hf

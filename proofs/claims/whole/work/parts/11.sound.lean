/-! A WHOLE RUN: what the pure machine answers, the real one answers -/
def ev_retI (v : Option Value) : Instr := match v with
  | none => .return_
  | some (.int _) => .ireturn
  | some (.long _) => .lreturn
  | some _ => .areturn
def ev_vok (m : Nat) (v : Option Value) : Prop := match v with
  | none => (ev_mt m).2.2.1 = 0
  | some (.int x) => ev_fit (ev_mt m).2.2.1 x = true
  | some (.long _) => (ev_mt m).2.2.1 = 5
  | some .null => (ev_mt m).2.2.1 = 4
  | some (.ref _) => (ev_mt m).2.2.1 = 4
  | _ => False
theorem ev_step_ret {m k : Nat} {e : Instr × Nat × Value} {ls : List (Option Value)} {st : List Value} {σ σ' : ev_M} {v : Option Value} (h : ev_step m k e ls st σ = some (.inr (.inl (v, σ')))) : e.1 = ev_retI v ∧ ev_vok m v ∧ σ' = σ ∧ st = v.toList := by
  obtain ⟨i, len, lk⟩ := e
  cases i
  case ireturn =>
    dsimp only [ev_step] at h
    split at h
    · split at h
      · rename_i h1
        cases h
        exact ⟨rfl, h1, rfl, rfl⟩
      · cases h
    · cases h
  case lreturn =>
    dsimp only [ev_step] at h
    split at h
    · split at h
      · rename_i h1
        cases h
        exact ⟨rfl, h1, rfl, rfl⟩
      · cases h
    · cases h
  case areturn =>
    dsimp only [ev_step] at h
    split at h
    · split at h
      · rename_i h1
        cases h
        exact ⟨rfl, h1, rfl, rfl⟩
      · cases h
    · split at h
      · rename_i h1
        cases h
        exact ⟨rfl, h1, rfl, rfl⟩
      · cases h
    · cases h
  case return_ =>
    dsimp only [ev_step] at h
    split at h
    · split at h
      · rename_i h1
        cases h
        exact ⟨rfl, h1, rfl, rfl⟩
      · cases h
    · cases h
  all_goals exfalso
  all_goals dsimp only [ev_step] at h
  all_goals first
    | (cases h; done)
    | (obtain ⟨_, _, h⟩ := ev_ldi_some h; cases h; done)
    | (obtain ⟨_, _, h⟩ := ev_ldl_some h; cases h; done)
    | (obtain ⟨_, _, h⟩ := ev_lda_some h; cases h; done)
    | (obtain ⟨_, _, _, h⟩ := ev_i_some h; obtain ⟨_, _, h⟩ := Option.bind_eq_some_iff.mp h; cases h; done)
    | (obtain ⟨_, _, _, h⟩ := ev_q_some h; obtain ⟨_, _, h⟩ := Option.bind_eq_some_iff.mp h; cases h; done)
    | (obtain ⟨_, _, _, h⟩ := ev_l_some h; obtain ⟨_, _, h⟩ := Option.bind_eq_some_iff.mp h; cases h; done)
    | (obtain ⟨_, _, _, h⟩ := ev_i_some h; cases h; done)
    | (obtain ⟨_, _, _, h⟩ := ev_l_some h; cases h; done)
    | (obtain ⟨_, _, _, _, h⟩ := ev_ii_some h; cases h; done)
    | (obtain ⟨_, _, _, _, h⟩ := ev_ll_some h; cases h; done)
    | (obtain ⟨_, _, _, _, h⟩ := ev_li_some h; cases h; done)
    | (obtain ⟨_, _, _, _, h⟩ := ev_1_some h; cases h; done)
    | (obtain ⟨_, _, _, h⟩ := ev_i_some h; obtain ⟨_, _, h⟩ := ev_tg_some h; cases h; done)
    | (obtain ⟨_, _, _, _, h⟩ := ev_ii_some h; obtain ⟨_, _, h⟩ := ev_tg_some h; cases h; done)
    | (obtain ⟨_, _, h⟩ := ev_tg_some h; cases h; done)
    | (obtain ⟨_, _, _, _, h⟩ := ev_ri_some h; obtain ⟨_, _, _, _, h⟩ := ev_ald_some h; cases h; done)
    | (obtain ⟨_, _, _, _, _, h⟩ := ev_rii_some h; obtain ⟨_, _, _, _, _, _, h⟩ := ev_ast_some h; cases h; done)
    | (obtain ⟨_, _, _, h, -⟩ := ev_call_some h; cases h; done)
    | (obtain ⟨_, _, _, _, h, -⟩ := ev_call_some h; cases h; done)
    | skip
  case iinc => split at h; (obtain ⟨_, _, h⟩ := Option.bind_eq_some_iff.mp h; cases h); cases h
  case ifnull =>
    obtain ⟨x, _, _, h⟩ := ev_q_some h
    obtain ⟨_, _, h⟩ := ev_tg_some h
    cases x with
    | none => cases h
    | some y =>
      dsimp only at h
      split at h <;> cases h
  case ifnonnull =>
    obtain ⟨x, _, _, h⟩ := ev_q_some h
    obtain ⟨_, _, h⟩ := ev_tg_some h
    cases x with
    | none => cases h
    | some y =>
      dsimp only at h
      split at h <;> cases h
  case if_acmp c o =>
    obtain ⟨_, _, _, h⟩ := ev_q_some h
    obtain ⟨_, _, _, h⟩ := ev_q_some h
    obtain ⟨_, _, h⟩ := ev_tg_some h
    split at h
    · cases c <;> cases h
    · cases h
  case arraylength =>
    obtain ⟨_, _, _, h⟩ := ev_r_some h
    split at h <;> cases h
  case getfield =>
    obtain ⟨_, _, _, h⟩ := ev_r_some h
    split at h
    · split at h <;> cases h
    · cases h
  case putfield =>
    obtain ⟨_, _, _, _, h⟩ := ev_rv_some h
    split at h
    · split at h <;> cases h
    · cases h
  case new =>
    split at h
    · split at h <;> cases h
    · cases h
  case newarray =>
    obtain ⟨_, _, _, h⟩ := ev_i_some h
    split at h
    · split at h <;> cases h
    · cases h
  case invokespecial =>
    split at h
    · obtain ⟨_, _, _, h⟩ := ev_r_some h
      split at h <;> cases h
    · obtain ⟨_, _, _, _, h, -⟩ := ev_call_some h
      cases h
  case invokestatic =>
    split at h
    · obtain ⟨_, _, _, _, _, _, _, _, _, _, _, _, _, _, _, _, _, _, _, _, _, h⟩ := ev_copy_some h
      cases h
    · obtain ⟨_, _, _, _, h, -⟩ := ev_call_some h
      cases h

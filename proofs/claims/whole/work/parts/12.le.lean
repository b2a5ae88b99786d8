theorem ev_next_le {a k' : Nat} {b ls' : List (Option Value)} {c st' : List Value} {d σ σ' : ev_M} (h : ev_next a b c d = some (.inl (k', ls', st', σ'))) (hd : ev_le σ d) : ev_le σ σ' := by
  obtain ⟨-, -, -, rfl⟩ := ev_next_some h
  exact hd
theorem ev_step_le {m k : Nat} {e : Instr × Nat × Value} {ls ls' : List (Option Value)} {st st' : List Value} {σ σ' : ev_M} {k' : Nat} (h : ev_step m k e ls st σ = some (.inl (k', ls', st', σ'))) : ev_le σ σ' := by
  obtain ⟨i, len, lk⟩ := e
  cases i
  case ireturn => dsimp only [ev_step] at h; split at h; (split at h <;> cases h); cases h
  case lreturn => dsimp only [ev_step] at h; split at h; (split at h <;> cases h); cases h
  case areturn => dsimp only [ev_step] at h; split at h; (split at h <;> cases h); (split at h <;> cases h); cases h
  case return_ => dsimp only [ev_step] at h; split at h; (split at h <;> cases h); cases h
  all_goals dsimp only [ev_step] at h
  all_goals first
    | (cases h; done)
    | exact ev_next_le h (ev_le.rf σ)
    | (obtain ⟨_, _, h⟩ := ev_ldi_some h; exact ev_next_le h (ev_le.rf σ))
    | (obtain ⟨_, _, h⟩ := ev_ldl_some h; exact ev_next_le h (ev_le.rf σ))
    | (obtain ⟨_, _, h⟩ := ev_lda_some h; exact ev_next_le h (ev_le.rf σ))
    | (obtain ⟨_, _, _, h⟩ := ev_i_some h; obtain ⟨_, _, h⟩ := Option.bind_eq_some_iff.mp h; exact ev_next_le h (ev_le.rf σ))
    | (obtain ⟨_, _, _, h⟩ := ev_q_some h; obtain ⟨_, _, h⟩ := Option.bind_eq_some_iff.mp h; exact ev_next_le h (ev_le.rf σ))
    | (obtain ⟨_, _, _, h⟩ := ev_l_some h; obtain ⟨_, _, h⟩ := Option.bind_eq_some_iff.mp h; exact ev_next_le h (ev_le.rf σ))
    | (obtain ⟨_, _, _, h⟩ := ev_i_some h; exact ev_next_le h (ev_le.rf σ))
    | (obtain ⟨_, _, _, h⟩ := ev_l_some h; exact ev_next_le h (ev_le.rf σ))
    | (obtain ⟨_, _, _, _, h⟩ := ev_ii_some h; exact ev_next_le h (ev_le.rf σ))
    | (obtain ⟨_, _, _, _, h⟩ := ev_ll_some h; exact ev_next_le h (ev_le.rf σ))
    | (obtain ⟨_, _, _, _, h⟩ := ev_li_some h; exact ev_next_le h (ev_le.rf σ))
    | (obtain ⟨_, _, _, _, h⟩ := ev_1_some h; exact ev_next_le h (ev_le.rf σ))
    | (obtain ⟨_, _, _, h⟩ := ev_i_some h; obtain ⟨_, _, h⟩ := ev_tg_some h; exact ev_next_le h (ev_le.rf σ))
    | (obtain ⟨_, _, _, _, h⟩ := ev_ii_some h; obtain ⟨_, _, h⟩ := ev_tg_some h; exact ev_next_le h (ev_le.rf σ))
    | (obtain ⟨_, _, h⟩ := ev_tg_some h; exact ev_next_le h (ev_le.rf σ))
    | (obtain ⟨_, _, _, _, h⟩ := ev_ri_some h; obtain ⟨_, _, _, _, h⟩ := ev_ald_some h; exact ev_next_le h (ev_le.rf σ))
    | (obtain ⟨_, _, _, _, _, h⟩ := ev_rii_some h; obtain ⟨g1, _, _, _, _, _, h⟩ := ev_ast_some h; exact ev_next_le h ⟨Nat.le_refl _, fun _ => rfl, fun j => ev_upd_ne (by omega) j⟩)
    | (obtain ⟨_, _, _, _, h, -⟩ := ev_call_some h; cases h; done)
    | skip
  case iinc => split at h; (obtain ⟨_, _, h⟩ := Option.bind_eq_some_iff.mp h; exact ev_next_le h (ev_le.rf σ)); cases h
  case ifnull =>
    obtain ⟨x, _, _, h⟩ := ev_q_some h
    obtain ⟨_, _, h⟩ := ev_tg_some h
    cases x with
    | none => exact ev_next_le h (ev_le.rf σ)
    | some y =>
      dsimp only at h
      split at h
      · exact ev_next_le h (ev_le.rf σ)
      · cases h
  case ifnonnull =>
    obtain ⟨x, _, _, h⟩ := ev_q_some h
    obtain ⟨_, _, h⟩ := ev_tg_some h
    cases x with
    | none => exact ev_next_le h (ev_le.rf σ)
    | some y =>
      dsimp only at h
      split at h
      · exact ev_next_le h (ev_le.rf σ)
      · cases h
  case if_acmp c o =>
    obtain ⟨_, _, _, h⟩ := ev_q_some h
    obtain ⟨_, _, _, h⟩ := ev_q_some h
    obtain ⟨_, _, h⟩ := ev_tg_some h
    split at h
    · cases c
      · exact ev_next_le h (ev_le.rf σ)
      · exact ev_next_le h (ev_le.rf σ)
    · cases h
  case arraylength =>
    obtain ⟨_, _, _, h⟩ := ev_r_some h
    split at h
    · exact ev_next_le h (ev_le.rf σ)
    · cases h
  case getfield =>
    obtain ⟨_, _, _, h⟩ := ev_r_some h
    split at h
    · split at h
      · exact ev_next_le h (ev_le.rf σ)
      · cases h
    · cases h
  case putfield =>
    obtain ⟨_, _, _, _, h⟩ := ev_rv_some h
    split at h
    · split at h
      · rename_i σ2 hv
        refine ev_next_le h ?_
        obtain ⟨h0, h1, q, o, -, -, -, ⟨-, z, -, rfl⟩ | ⟨b, -, -, -, rfl⟩⟩ := ev_putf_some hv
        · exact ⟨Nat.le_refl _, fun j => ev_upd_ne (by omega) j, fun _ => rfl⟩
        · exact ⟨Nat.le_refl _, fun _ => rfl, fun _ => rfl⟩
      · cases h
    · cases h
  case new =>
    split at h
    · split at h
      · exact ev_next_le h ⟨Nat.le_succ _, fun _ => rfl, fun _ => rfl⟩
      · cases h
    · cases h
  case newarray =>
    obtain ⟨_, _, _, h⟩ := ev_i_some h
    split at h
    · split at h
      · exact ev_next_le h ⟨Nat.le_succ _, fun _ => rfl, fun _ => rfl⟩
      · cases h
    · cases h
  case invokespecial =>
    split at h
    · obtain ⟨_, _, _, h⟩ := ev_r_some h
      split at h
      · exact ev_next_le h (ev_le.rf σ)
      · cases h
    · obtain ⟨_, _, _, _, h, -⟩ := ev_call_some h
      cases h
  case invokestatic =>
    split at h
    · obtain ⟨_, _, _, _, b, _, _, _, _, _, g2, _, _, _, _, _, _, _, _, _, _, h⟩ := ev_copy_some h
      exact ev_next_le h ⟨Nat.le_refl _, fun _ => rfl, fun j => if_neg (by omega)⟩
    · obtain ⟨_, _, _, _, h, -⟩ := ev_call_some h
      cases h
theorem ev_run_le : ∀ (n d m k : Nat) (ls : List (Option Value)) (st : List Value) (σ : ev_M) (v : Option Value) (σ' : ev_M), ev_run n d m k ls st σ = some (v, σ') → ev_le σ σ'
  | 0, d, m, k, ls, st, σ, v, σ', h => by simp [ev_run] at h
  | n + 1, d, m, k, ls, st, σ, v, σ', h => by
    simp only [ev_run] at h
    split at h
    · cases h
    · rename_i e he
      split at h
      · cases h
      · rename_i q hq
        exact (ev_step_le hq).tr (ev_run_le n d m _ _ _ _ v σ' h)
      · rename_i q hq
        obtain ⟨v2, σ2⟩ := q
        obtain ⟨-, -, e3, -⟩ := ev_step_ret hq
        cases h
        rw [e3]
        exact ev_le.rf σ
      · rename_i q hq
        cases d with
        | zero => cases h
        | succ d =>
          dsimp only at h
          split at h
          · cases h
          · rename_i w hw
            exact (ev_run_le n d q.1 0 _ [] σ w.1 w.2 hw).tr (ev_run_le n (d + 1) m _ _ _ _ v σ' h)
theorem ev_step_call {m k : Nat} {e : Instr × Nat × Value} {ls : List (Option Value)} {st : List Value} {σ : ev_M} {z : Nat × List Value × List Value} (h : ev_step m k e ls st σ = some (.inr (.inr z))) : (∃ j, e.1 = .invokevirtual j) ∨ (∃ j, e.1 = .invokestatic j) ∨ ∃ j, e.1 = .invokespecial j := by
  obtain ⟨i, len, lk⟩ := e
  cases i
  case invokevirtual j => exact Or.inl ⟨j, rfl⟩
  case invokestatic j => exact Or.inr (Or.inl ⟨j, rfl⟩)
  case invokespecial j => exact Or.inr (Or.inr ⟨j, rfl⟩)
  case ireturn => dsimp only [ev_step] at h; split at h; (split at h <;> cases h); cases h
  case lreturn => dsimp only [ev_step] at h; split at h; (split at h <;> cases h); cases h
  case areturn => dsimp only [ev_step] at h; split at h; (split at h <;> cases h); (split at h <;> cases h); cases h
  case return_ => dsimp only [ev_step] at h; split at h; (split at h <;> cases h); cases h
  all_goals exfalso
  all_goals dsimp only [ev_step] at h
  all_goals first
    | (cases h; done)
    | (obtain ⟨_, _, h⟩ := ev_ldi_some h; cases h; done)
    | (obtain ⟨_, _, h⟩ := ev_ldl_some h; cases h; done)
    | (obtain ⟨_, _, h⟩ := ev_lda_some h; cases h; done)
    | (obtain ⟨_, _, _, h⟩ := ev_i_some h; obtain ⟨_, _, h⟩ := Option.bind_eq_some_iff.mp h; cases h; done)
    | (obtain ⟨_, _, _, h⟩ := ev_q_some h; obtain ⟨_, _, h⟩ := Option.bind_eq_some_iff.mp h; cases h; done)
    | (obtain ⟨_, _, _, h⟩ := ev_l_some h; obtain ⟨_, _, h⟩ := Option.bind_eq_some_iff.mp h; cases h; done)
    | (obtain ⟨_, _, _, h⟩ := ev_i_some h; cases h; done)
    | (obtain ⟨_, _, _, h⟩ := ev_l_some h; cases h; done)
    | (obtain ⟨_, _, _, _, h⟩ := ev_ii_some h; cases h; done)
    | (obtain ⟨_, _, _, _, h⟩ := ev_ll_some h; cases h; done)
    | (obtain ⟨_, _, _, _, h⟩ := ev_li_some h; cases h; done)
    | (obtain ⟨_, _, _, _, h⟩ := ev_1_some h; cases h; done)
    | (obtain ⟨_, _, _, h⟩ := ev_i_some h; obtain ⟨_, _, h⟩ := ev_tg_some h; cases h; done)
    | (obtain ⟨_, _, _, _, h⟩ := ev_ii_some h; obtain ⟨_, _, h⟩ := ev_tg_some h; cases h; done)
    | (obtain ⟨_, _, h⟩ := ev_tg_some h; cases h; done)
    | (obtain ⟨_, _, _, _, h⟩ := ev_ri_some h; obtain ⟨_, _, _, _, h⟩ := ev_ald_some h; cases h; done)
    | (obtain ⟨_, _, _, _, _, h⟩ := ev_rii_some h; obtain ⟨_, _, _, _, _, _, h⟩ := ev_ast_some h; cases h; done)
    | (obtain ⟨_, _, _, h, -⟩ := ev_call_some h; cases h; done)
    | (obtain ⟨_, _, _, _, h, -⟩ := ev_call_some h; cases h; done)
    | skip
  case iinc => split at h; (obtain ⟨_, _, h⟩ := Option.bind_eq_some_iff.mp h; cases h); cases h
  case ifnull =>
    obtain ⟨x, _, _, h⟩ := ev_q_some h
    obtain ⟨_, _, h⟩ := ev_tg_some h
    cases x with
    | none => cases h
    | some y =>
      dsimp only at h
      split at h <;> cases h
  case ifnonnull =>
    obtain ⟨x, _, _, h⟩ := ev_q_some h
    obtain ⟨_, _, h⟩ := ev_tg_some h
    cases x with
    | none => cases h
    | some y =>
      dsimp only at h
      split at h <;> cases h
  case if_acmp c o =>
    obtain ⟨_, _, _, h⟩ := ev_q_some h
    obtain ⟨_, _, _, h⟩ := ev_q_some h
    obtain ⟨_, _, h⟩ := ev_tg_some h
    split at h
    · cases c <;> cases h
    · cases h
  case arraylength =>
    obtain ⟨_, _, _, h⟩ := ev_r_some h
    split at h <;> cases h
  case getfield =>
    obtain ⟨_, _, _, h⟩ := ev_r_some h
    split at h
    · split at h <;> cases h
    · cases h
  case putfield =>
    obtain ⟨_, _, _, _, h⟩ := ev_rv_some h
    split at h
    · split at h <;> cases h
    · cases h
  case new =>
    split at h
    · split at h <;> cases h
    · cases h
  case newarray =>
    obtain ⟨_, _, _, h⟩ := ev_i_some h
    split at h
    · split at h <;> cases h
    · cases h

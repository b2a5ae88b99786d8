/-! THE CONSTRUCTORS, and the law's first rows -/
set_option maxRecDepth 1000000 in
set_option maxHeartbeats 4000000 in
theorem ev_kS (I A : Nat → Nat → Int32) : ev_run 120 13 92 0 [some (.ref 1000)] [] (1001, 0, I, A) = some (none, (1033, 32, ev_upd I 1023 0 3, A)) := rfl
set_option maxRecDepth 1000000 in
set_option maxHeartbeats 4000000 in
theorem ev_kM (I A : Nat → Nat → Int32) : ev_run 120 13 118 0 [some (.ref 1033)] [] (1034, 32, I, A) = some (none, (1057, 55, ev_upd I 1033 19 3, A)) := rfl
abbrev ev_I0 (L : Nat) : Nat → Nat → Int32 := fun x k => if x = 502 then (if k = 0 then Int32.ofNat L else 0) else 0
abbrev ev_A0 (xs : Nat → Int32) : Nat → Nat → Int32 := fun x j => if x = 502 then xs j else 0
set_option maxRecDepth 1000000 in
theorem ev_first {I A : Nat → Nat → Int32} {P : Option Value → ev_M → Prop} (h : ev_T 14 190 18 [some (.ref 502), some (.ref 1000), some (.ref 1033), some (.int 0)] [] (1057, 55, ev_upd (ev_upd I 1023 0 3) 1033 19 3, A) P) :
    ev_T 14 190 0 [some (.ref 502), none, none, none] [] (1000, 0, I, A) P := by
  refine ev_T.adv (k' := 4) (ls' := [some (.ref 502), none, none, none]) (st' := [.ref 1000, .ref 1000]) (σ' := (1001, 0, I, A)) 2 rfl ?_
  refine ev_T.calls (m' := 92) (as := [.ref 1000]) (r := [.ref 1000]) (P' := fun v σ' => v = none ∧ σ' = (1033, 32, ev_upd I 1023 0 3, A)) rfl rfl ⟨120, _, _, ev_kS I A, rfl, rfl⟩ ?_
  rintro v σ' ⟨rfl, rfl⟩
  refine ev_T.adv (k' := 12) (ls' := [some (.ref 502), some (.ref 1000), none, none]) (st' := [.ref 1033, .ref 1033]) (σ' := (1034, 32, ev_upd I 1023 0 3, A)) 3 rfl ?_
  refine ev_T.calls (m' := 118) (as := [.ref 1033]) (r := [.ref 1033]) (P' := fun v σ' => v = none ∧ σ' = (1057, 55, ev_upd (ev_upd I 1023 0 3) 1033 19 3, A)) rfl rfl ⟨120, _, _, ev_kM _ A, rfl, rfl⟩ ?_
  rintro v σ' ⟨rfl, rfl⟩
  exact ev_T.adv (k' := 18) (ls' := [some (.ref 502), some (.ref 1000), some (.ref 1033), some (.int 0)]) (st' := []) (σ' := (1057, 55, ev_upd (ev_upd I 1023 0 3) 1033 19 3, A)) 3 rfl h

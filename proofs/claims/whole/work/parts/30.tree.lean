/-! THE PURE MACHINE, walked: ev_T says that it comes to an end with P -/
theorem ev_run_up : ∀ (n d m k : Nat) (ls : List (Option Value)) (st : List Value) (σ : ev_M) (r : Option Value × ev_M), ev_run n d m k ls st σ = some r → ∀ j, ev_run (n + j) d m k ls st σ = some r
  | 0, d, m, k, ls, st, σ, r, h, j => by simp [ev_run] at h
  | n + 1, d, m, k, ls, st, σ, r, h, j => by
    rw [show n + 1 + j = n + j + 1 by omega]
    simp only [ev_run] at h ⊢
    split at h
    · cases h
    · rename_i e he
      split at h
      · cases h
      · rename_i q hq
        exact ev_run_up n d m _ _ _ _ r h j
      · exact h
      · rename_i q hq
        cases d with
        | zero => cases h
        | succ d =>
          dsimp only at h ⊢
          split at h
          · cases h
          · rename_i w hw
            rw [ev_run_up n d q.1 0 _ [] σ w hw j]
            exact ev_run_up n (d + 1) m _ _ _ _ r h j
def ev_T (d m k : Nat) (ls : List (Option Value)) (st : List Value) (σ : ev_M) (P : Option Value → ev_M → Prop) : Prop := ∃ (n : Nat) (v : Option Value) (σ' : ev_M), ev_run n d m k ls st σ = some (v, σ') ∧ P v σ'
abbrev ev_Pi (K : Int32 → (Nat → Nat → Int32) → (Nat → Nat → Int32) → Prop) : Option Value → ev_M → Prop := fun v σ' => ∃ (z : Int32) (I A : Nat → Nat → Int32), v = some (.int z) ∧ σ' = (1057, 55, I, A) ∧ K z I A
abbrev ev_Pl (K : Int64 → (Nat → Nat → Int32) → (Nat → Nat → Int32) → Prop) : Option Value → ev_M → Prop := fun v σ' => ∃ (z : Int64) (I A : Nat → Nat → Int32), v = some (.long z) ∧ σ' = (1057, 55, I, A) ∧ K z I A
abbrev ev_Pr (K : Option Nat → (Nat → Nat → Int32) → (Nat → Nat → Int32) → Prop) : Option Value → ev_M → Prop := fun v σ' => ∃ (z : Option Nat) (I A : Nat → Nat → Int32), v = some (va_rf z) ∧ σ' = (1057, 55, I, A) ∧ K z I A
abbrev ev_Pv (K : (Nat → Nat → Int32) → (Nat → Nat → Int32) → Prop) : Option Value → ev_M → Prop := fun v σ' => ∃ (I A : Nat → Nat → Int32), v = none ∧ σ' = (1057, 55, I, A) ∧ K I A
abbrev ev_Bis (d m k : Nat) (ls : List (Option Value)) (st : List Value) (I A : Nat → Nat → Int32) (K : Int32 → (Nat → Nat → Int32) → (Nat → Nat → Int32) → Prop) : Prop := ev_T d m k ls st (1057, 55, I, A) (ev_Pi K)
abbrev ev_Bls (d m k : Nat) (ls : List (Option Value)) (st : List Value) (I A : Nat → Nat → Int32) (K : Int64 → (Nat → Nat → Int32) → (Nat → Nat → Int32) → Prop) : Prop := ev_T d m k ls st (1057, 55, I, A) (ev_Pl K)
abbrev ev_Brs (d m k : Nat) (ls : List (Option Value)) (st : List Value) (I A : Nat → Nat → Int32) (K : Option Nat → (Nat → Nat → Int32) → (Nat → Nat → Int32) → Prop) : Prop := ev_T d m k ls st (1057, 55, I, A) (ev_Pr K)
abbrev ev_Bvs (d m k : Nat) (ls : List (Option Value)) (st : List Value) (I A : Nat → Nat → Int32) (K : (Nat → Nat → Int32) → (Nat → Nat → Int32) → Prop) : Prop := ev_T d m k ls st (1057, 55, I, A) (ev_Pv K)
abbrev ev_Bi (d m k : Nat) (ls : List (Option Value)) (I A : Nat → Nat → Int32) (K : Int32 → (Nat → Nat → Int32) → (Nat → Nat → Int32) → Prop) : Prop := ev_T d m k ls [] (1057, 55, I, A) (ev_Pi K)
abbrev ev_Bl (d m k : Nat) (ls : List (Option Value)) (I A : Nat → Nat → Int32) (K : Int64 → (Nat → Nat → Int32) → (Nat → Nat → Int32) → Prop) : Prop := ev_T d m k ls [] (1057, 55, I, A) (ev_Pl K)
abbrev ev_Br (d m k : Nat) (ls : List (Option Value)) (I A : Nat → Nat → Int32) (K : Option Nat → (Nat → Nat → Int32) → (Nat → Nat → Int32) → Prop) : Prop := ev_T d m k ls [] (1057, 55, I, A) (ev_Pr K)
abbrev ev_Bv (d m k : Nat) (ls : List (Option Value)) (I A : Nat → Nat → Int32) (K : (Nat → Nat → Int32) → (Nat → Nat → Int32) → Prop) : Prop := ev_T d m k ls [] (1057, 55, I, A) (ev_Pv K)
def ev_isL (L : Nat) : Prop := L = 1008 ∨ L = 1010 ∨ L = 1028
abbrev ev_ushr (x y : Int32) : Int32 := (x.toUInt32 >>> (y.toUInt32 &&& Int32.toUInt32 31)).toInt32
abbrev ev_i2c (x : Int32) : Int32 := (x.toUInt32 % 65536).toInt32
abbrev ev_cp (A : Nat → Nat → Int32) (a b : Nat) (sp dp n : Int32) : Nat → Nat → Int32 := fun x j => if x = b then va_cpy (A a) (A b) sp.toNatClampNeg dp.toNatClampNeg n.toNatClampNeg j else A x j
abbrev ev_cpok (sp dp n : Int32) (na nb : Nat) : Prop := ¬ sp < 0 ∧ ¬ dp < 0 ∧ ¬ n < 0 ∧ sp.toNatClampNeg + n.toNatClampNeg ≤ na ∧ dp.toNatClampNeg + n.toNatClampNeg ≤ nb
def ev_adv : Nat → Nat → Nat → List (Option Value) → List Value → ev_M → Option (Nat × List (Option Value) × List Value × ev_M)
  | 0, _, k, ls, st, σ => some (k, ls, st, σ)
  | n + 1, m, k, ls, st, σ => match ev_at m k with
    | none => none
    | some e => match ev_step m k e ls st σ with
      | some (.inl q) => ev_adv n m q.1 q.2.1 q.2.2.1 q.2.2.2
      | _ => none
/-- calls on a text: of no argument, of one -/
theorem ev_scall0 {m k j m' : Nat} {ls : List (Option Value)} {r : List Value} {σ : ev_M} {x : Nat} (hx : x < 110) (hr : (decide (ev_cat r ≤ 8) && decide (ev_mt (m' % 100000) = ((ev_mt (m' % 100000)).1, 0, (ev_mt (m' % 100000)).2.2.1, 99)) && decide (1 ≤ (ev_mt (m' % 100000)).1)) = true) : ev_step m k (.invokevirtual j, 3, .ref m') ls (.ref x :: r) σ = some (.inr (.inr (m' % 100000, [.ref x], r))) := by
  simp only [Bool.and_eq_true, decide_eq_true_eq] at hr
  obtain ⟨⟨h1, h2⟩, h3⟩ := hr
  simp only [ev_step, ev_call]
  have e1 : (ev_mt (m' % 100000)).2.1 = 0 := by rw [h2]
  have e2 : (ev_mt (m' % 100000)).2.2.2 = 99 := by rw [h2]
  have hr : ev_recv σ x 99 = true := by
    unfold ev_recv
    rw [if_pos (by omega)]
    simp [hx]
  simp [e1, e2, h1, ev_ent, ev_nd, h3, hr]
theorem ev_scall1 {m k j m' : Nat} {ls : List (Option Value)} {r : List Value} {σ : ev_M} {x : Nat} {i : Int32} (hx : x < 110) (hr : (decide (ev_cat r ≤ 8) && decide (ev_mt (m' % 100000) = ((ev_mt (m' % 100000)).1, 1, (ev_mt (m' % 100000)).2.2.1, 99)) && decide (2 ≤ (ev_mt (m' % 100000)).1)) = true) : ev_step m k (.invokevirtual j, 3, .ref m') ls (.int i :: .ref x :: r) σ = some (.inr (.inr (m' % 100000, [.ref x, .int i], r))) := by
  simp only [Bool.and_eq_true, decide_eq_true_eq] at hr
  obtain ⟨⟨h1, h2⟩, h3⟩ := hr
  simp only [ev_step, ev_call]
  have e1 : (ev_mt (m' % 100000)).2.1 = 1 := by rw [h2]
  have e2 : (ev_mt (m' % 100000)).2.2.2 = 99 := by rw [h2]
  have hr : ev_recv σ x 99 = true := by
    unfold ev_recv
    rw [if_pos (by omega)]
    simp [hx]
  simp [e1, e2, h1, ev_ent, ev_nd, h3, hr]
section EVT
variable {d m k : Nat} {ls : List (Option Value)} {st r : List Value} {σ : ev_M} {P : Option Value → ev_M → Prop} {I A : Nat → Nat → Int32}
theorem ev_T.step {e : Instr × Nat × Value} {k' : Nat} {ls' : List (Option Value)} {st' : List Value} {σ' : ev_M} (he : ev_at m k = some e) (hs : ev_step m k e ls st σ = some (.inl (k', ls', st', σ'))) (h : ev_T d m k' ls' st' σ' P) : ev_T d m k ls st σ P := by
  obtain ⟨n, v, σ2, h1, h2⟩ := h
  refine ⟨n + 1, v, σ2, ?_, h2⟩
  simp only [ev_run, he, hs]
  exact h1
theorem ev_T.adv (n : Nat) {k' : Nat} {ls' : List (Option Value)} {st' : List Value} {σ' : ev_M} (hs : ev_adv n m k ls st σ = some (k', ls', st', σ')) (h : ev_T d m k' ls' st' σ' P) : ev_T d m k ls st σ P := by
  induction n generalizing k ls st σ with
  | zero =>
    simp only [ev_adv, Option.some.injEq, Prod.mk.injEq] at hs
    obtain ⟨rfl, rfl, rfl, rfl⟩ := hs
    exact h
  | succ n ih =>
    simp only [ev_adv] at hs
    split at hs
    · cases hs
    · rename_i e he
      split at hs
      · rename_i q hq
        exact ev_T.step he hq (ih hs)
      · cases hs
theorem ev_set_ok {l : List (Option Value)} {i : Nat} {v : Value} (h1 : i < l.length) (h2 : i = 0 ∨ ev_two l[i - 1]? = false) : ev_set l i v = some (l.set i (some v)) := by
  unfold ev_set
  rw [if_pos ⟨h1, h2⟩]
theorem ev_T.ist1 {n : Fin 4} {len : Nat} {lk : Value} {x : Int32} {ls' : List (Option Value)} (he : ev_at m k = some (.istore_n n, len, lk)) (hs : ev_set ls n (.int x) = some ls') (h : ev_T d m (k + len) ls' r σ P) : ev_T d m k ls (.int x :: r) σ P :=
  ev_T.step he (by simp only [ev_step, ev_i, hs]; rfl) h
theorem ev_T.ist2 {n len : Nat} {lk : Value} {x : Int32} {ls' : List (Option Value)} (he : ev_at m k = some (.istore n, len, lk)) (hs : ev_set ls n (.int x) = some ls') (h : ev_T d m (k + len) ls' r σ P) : ev_T d m k ls (.int x :: r) σ P :=
  ev_T.step he (by simp only [ev_step, ev_i, hs]; rfl) h
theorem ev_T.iin {n len : Nat} {c : Int} {lk : Value} {x : Int32} {ls' : List (Option Value)} (he : ev_at m k = some (.iinc n c, len, lk)) (hx : ls[n]? = some (some (.int x))) (hs : ev_set ls n (.int (x + Int32.ofInt c)) = some ls') (h : ev_T d m (k + len) ls' r σ P) : ev_T d m k ls r σ P :=
  ev_T.step he (by simp only [ev_step, hx, hs]; rfl) h
theorem ev_T.rets {e : Instr × Nat × Value} {v : Option Value} (he : ev_at m k = some e) (hs : ev_step m k e ls st σ = some (.inr (.inl (v, σ)))) (h : P v σ) : ev_T d m k ls st σ P :=
  ⟨1, v, σ, by simp only [ev_run, he, hs], h⟩
theorem ev_T.calls {e : Instr × Nat × Value} {m' : Nat} {as : List Value} {P' : Option Value → ev_M → Prop} (he : ev_at m k = some e) (hs : ev_step m k e ls st σ = some (.inr (.inr (m', as, r)))) (h : ev_T d m' 0 (ev_entry m' as) [] σ P')
    (kk : ∀ v σ', P' v σ' → ev_T (d + 1) m (k + e.2.1) ls (v.toList ++ r) σ' P) : ev_T (d + 1) m k ls st σ P := by
  obtain ⟨n, v, σ', h1, h2⟩ := h
  obtain ⟨n2, v2, σ2, h3, h4⟩ := kk v σ' h2
  refine ⟨n + n2 + 1, v2, σ2, ?_, h4⟩
  simp only [ev_run, he, hs, ev_run_up n d m' 0 _ [] σ _ h1 n2]
  rw [Nat.add_comm]
  exact ev_run_up n2 (d + 1) m _ _ _ _ _ h3 n
theorem ev_T.calli {e : Instr × Nat × Value} {m' : Nat} {as : List Value} {ls0 : List (Option Value)} {K' : Int32 → (Nat → Nat → Int32) → (Nat → Nat → Int32) → Prop} (he : ev_at m k = some e) (hs : ev_step m k e ls st (1057, 55, I, A) = some (.inr (.inr (m', as, r)))) (hl : ev_entry m' as = ls0) (h : ev_Bi d m' 0 ls0 I A K')
    (kk : ∀ z I' A', K' z I' A' → ev_T (d + 1) m (k + e.2.1) ls (.int z :: r) (1057, 55, I', A') P) : ev_T (d + 1) m k ls st (1057, 55, I, A) P := by
  subst hl
  refine ev_T.calls he hs h ?_
  rintro v σ' ⟨z, I', A', rfl, rfl, h5⟩
  exact kk z I' A' h5
theorem ev_T.calll {e : Instr × Nat × Value} {m' : Nat} {as : List Value} {ls0 : List (Option Value)} {K' : Int64 → (Nat → Nat → Int32) → (Nat → Nat → Int32) → Prop} (he : ev_at m k = some e) (hs : ev_step m k e ls st (1057, 55, I, A) = some (.inr (.inr (m', as, r)))) (hl : ev_entry m' as = ls0) (h : ev_Bl d m' 0 ls0 I A K')
    (kk : ∀ z I' A', K' z I' A' → ev_T (d + 1) m (k + e.2.1) ls (.long z :: r) (1057, 55, I', A') P) : ev_T (d + 1) m k ls st (1057, 55, I, A) P := by
  subst hl
  refine ev_T.calls he hs h ?_
  rintro v σ' ⟨z, I', A', rfl, rfl, h5⟩
  exact kk z I' A' h5
theorem ev_T.callr {e : Instr × Nat × Value} {m' : Nat} {as : List Value} {ls0 : List (Option Value)} {K' : Option Nat → (Nat → Nat → Int32) → (Nat → Nat → Int32) → Prop} (he : ev_at m k = some e) (hs : ev_step m k e ls st (1057, 55, I, A) = some (.inr (.inr (m', as, r)))) (hl : ev_entry m' as = ls0) (h : ev_Br d m' 0 ls0 I A K')
    (kk : ∀ z I' A', K' z I' A' → ev_T (d + 1) m (k + e.2.1) ls (va_rf z :: r) (1057, 55, I', A') P) : ev_T (d + 1) m k ls st (1057, 55, I, A) P := by
  subst hl
  refine ev_T.calls he hs h ?_
  rintro v σ' ⟨z, I', A', rfl, rfl, h5⟩
  exact kk z I' A' h5
theorem ev_T.callv {e : Instr × Nat × Value} {m' : Nat} {as : List Value} {ls0 : List (Option Value)} {K' : (Nat → Nat → Int32) → (Nat → Nat → Int32) → Prop} (he : ev_at m k = some e) (hs : ev_step m k e ls st (1057, 55, I, A) = some (.inr (.inr (m', as, r)))) (hl : ev_entry m' as = ls0) (h : ev_Bv d m' 0 ls0 I A K')
    (kk : ∀ I' A', K' I' A' → ev_T (d + 1) m (k + e.2.1) ls r (1057, 55, I', A') P) : ev_T (d + 1) m k ls st (1057, 55, I, A) P := by
  subst hl
  refine ev_T.calls he hs h ?_
  rintro v σ' ⟨I', A', rfl, rfl, h5⟩
  exact kk I' A' h5
theorem ev_T.reti {lk : Value} {x : Int32} {K : Int32 → (Nat → Nat → Int32) → (Nat → Nat → Int32) → Prop} (he : ev_at m k = some (.ireturn, 1, lk)) (hr : (ev_mt m).2.2.1 = 1) (h : K x I A) : ev_T d m k ls [.int x] (1057, 55, I, A) (ev_Pi K) :=
  ev_T.rets he (by simp [ev_step, hr, ev_fit]) ⟨x, I, A, rfl, rfl, h⟩
theorem ev_T.retz {lk : Value} {x : Int32} {t : Nat} {K : Int32 → (Nat → Nat → Int32) → (Nat → Nat → Int32) → Prop} (he : ev_at m k = some (.ireturn, 1, lk)) (hr : (ev_mt m).2.2.1 = t) (hf : ev_fit t x = true) (h : K x I A) : ev_T d m k ls [.int x] (1057, 55, I, A) (ev_Pi K) :=
  ev_T.rets he (by simp [ev_step, hr, hf]) ⟨x, I, A, rfl, rfl, h⟩
theorem ev_T.retl {lk : Value} {x : Int64} {K : Int64 → (Nat → Nat → Int32) → (Nat → Nat → Int32) → Prop} (he : ev_at m k = some (.lreturn, 1, lk)) (hr : (ev_mt m).2.2.1 = 5) (h : K x I A) : ev_T d m k ls [.long x] (1057, 55, I, A) (ev_Pl K) :=
  ev_T.rets he (by simp [ev_step, hr]) ⟨x, I, A, rfl, rfl, h⟩
theorem ev_T.retr {lk : Value} {x : Option Nat} {K : Option Nat → (Nat → Nat → Int32) → (Nat → Nat → Int32) → Prop} (he : ev_at m k = some (.areturn, 1, lk)) (hr : (ev_mt m).2.2.1 = 4) (h : K x I A) : ev_T d m k ls [va_rf x] (1057, 55, I, A) (ev_Pr K) := by
  refine ev_T.rets he (v := some (va_rf x)) ?_ ⟨x, I, A, rfl, rfl, h⟩
  cases x <;> simp [ev_step, hr, va_rf]
theorem ev_T.retv {lk : Value} {K : (Nat → Nat → Int32) → (Nat → Nat → Int32) → Prop} (he : ev_at m k = some (.return_, 1, lk)) (hr : (ev_mt m).2.2.1 = 0) (h : K I A) : ev_T d m k ls [] (1057, 55, I, A) (ev_Pv K) :=
  ev_T.rets he (by simp [ev_step, hr]) ⟨I, A, rfl, rfl, h⟩
theorem ev_T.icmp {o : Int} {len t : Nat} {q : Jvm.ClassFile.Cond} {x y : Int32} (he : ev_at m k = some (.if_icmp q o, len, .ref t)) (h : ev_T d m (if ev_holds q x y = true then t else k + len) ls r σ P) : ev_T d m k ls (.int y :: .int x :: r) σ P :=
  ev_T.step he rfl h
theorem ev_T.ifc {o : Int} {len t : Nat} {q : Jvm.ClassFile.Cond} {x : Int32} (he : ev_at m k = some (.ifCond q o, len, .ref t)) (h : ev_T d m (if ev_holds q x 0 = true then t else k + len) ls r σ P) : ev_T d m k ls (.int x :: r) σ P :=
  ev_T.step he rfl h
theorem ev_T.icmp_eq {o : Int} {len t : Nat} {x y : Int32} (he : ev_at m k = some (.if_icmp .eq o, len, .ref t)) (h1 : x = y → ev_T d m t ls r σ P) (h2 : ¬ x = y → ev_T d m (k + len) ls r σ P) : ev_T d m k ls (.int y :: .int x :: r) σ P := by
  refine ev_T.icmp he ?_
  by_cases c : x = y
  · rw [if_pos (by simp [ev_holds, c])]; exact h1 c
  · rw [if_neg (by simp [ev_holds, c])]; exact h2 c
theorem ev_T.icmp_ne {o : Int} {len t : Nat} {x y : Int32} (he : ev_at m k = some (.if_icmp .ne o, len, .ref t)) (h1 : x = y → ev_T d m (k + len) ls r σ P) (h2 : ¬ x = y → ev_T d m t ls r σ P) : ev_T d m k ls (.int y :: .int x :: r) σ P := by
  refine ev_T.icmp he ?_
  by_cases c : x = y
  · rw [if_neg (by simp [ev_holds, c])]; exact h1 c
  · rw [if_pos (by simp [ev_holds, c])]; exact h2 c
theorem ev_T.icmp_lt {o : Int} {len t : Nat} {x y : Int32} (he : ev_at m k = some (.if_icmp .lt o, len, .ref t)) (h1 : x < y → ev_T d m t ls r σ P) (h2 : ¬ x < y → ev_T d m (k + len) ls r σ P) : ev_T d m k ls (.int y :: .int x :: r) σ P := by
  refine ev_T.icmp he ?_
  by_cases c : x < y
  · simp only [ev_holds, decide_eq_true_eq]; rw [if_pos c]; exact h1 c
  · simp only [ev_holds, decide_eq_true_eq]; rw [if_neg c]; exact h2 c
theorem ev_T.icmp_ge {o : Int} {len t : Nat} {x y : Int32} (he : ev_at m k = some (.if_icmp .ge o, len, .ref t)) (h1 : y ≤ x → ev_T d m t ls r σ P) (h2 : ¬ y ≤ x → ev_T d m (k + len) ls r σ P) : ev_T d m k ls (.int y :: .int x :: r) σ P := by
  refine ev_T.icmp he ?_
  by_cases c : y ≤ x
  · simp only [ev_holds, decide_eq_true_eq]; rw [if_pos c]; exact h1 c
  · simp only [ev_holds, decide_eq_true_eq]; rw [if_neg c]; exact h2 c
theorem ev_T.icmp_gt {o : Int} {len t : Nat} {x y : Int32} (he : ev_at m k = some (.if_icmp .gt o, len, .ref t)) (h1 : y < x → ev_T d m t ls r σ P) (h2 : ¬ y < x → ev_T d m (k + len) ls r σ P) : ev_T d m k ls (.int y :: .int x :: r) σ P := by
  refine ev_T.icmp he ?_
  by_cases c : y < x
  · simp only [ev_holds, decide_eq_true_eq]; rw [if_pos c]; exact h1 c
  · simp only [ev_holds, decide_eq_true_eq]; rw [if_neg c]; exact h2 c
theorem ev_T.icmp_le {o : Int} {len t : Nat} {x y : Int32} (he : ev_at m k = some (.if_icmp .le o, len, .ref t)) (h1 : x ≤ y → ev_T d m t ls r σ P) (h2 : ¬ x ≤ y → ev_T d m (k + len) ls r σ P) : ev_T d m k ls (.int y :: .int x :: r) σ P := by
  refine ev_T.icmp he ?_
  by_cases c : x ≤ y
  · simp only [ev_holds, decide_eq_true_eq]; rw [if_pos c]; exact h1 c
  · simp only [ev_holds, decide_eq_true_eq]; rw [if_neg c]; exact h2 c
theorem ev_T.if_eq {o : Int} {len t : Nat} {x : Int32} (he : ev_at m k = some (.ifCond .eq o, len, .ref t)) (h1 : x = 0 → ev_T d m t ls r σ P) (h2 : ¬ x = 0 → ev_T d m (k + len) ls r σ P) : ev_T d m k ls (.int x :: r) σ P := by
  refine ev_T.ifc he ?_
  by_cases c : x = 0
  · rw [if_pos (by simp [ev_holds, c])]; exact h1 c
  · rw [if_neg (by simp [ev_holds, c])]; exact h2 c
theorem ev_T.if_ne {o : Int} {len t : Nat} {x : Int32} (he : ev_at m k = some (.ifCond .ne o, len, .ref t)) (h1 : x = 0 → ev_T d m (k + len) ls r σ P) (h2 : ¬ x = 0 → ev_T d m t ls r σ P) : ev_T d m k ls (.int x :: r) σ P := by
  refine ev_T.ifc he ?_
  by_cases c : x = 0
  · rw [if_neg (by simp [ev_holds, c])]; exact h1 c
  · rw [if_pos (by simp [ev_holds, c])]; exact h2 c
theorem ev_T.if_lt {o : Int} {len t : Nat} {x : Int32} (he : ev_at m k = some (.ifCond .lt o, len, .ref t)) (h1 : x < 0 → ev_T d m t ls r σ P) (h2 : ¬ x < 0 → ev_T d m (k + len) ls r σ P) : ev_T d m k ls (.int x :: r) σ P := by
  refine ev_T.ifc he ?_
  by_cases c : x < 0
  · simp only [ev_holds, decide_eq_true_eq]; rw [if_pos c]; exact h1 c
  · simp only [ev_holds, decide_eq_true_eq]; rw [if_neg c]; exact h2 c
theorem ev_T.if_ge {o : Int} {len t : Nat} {x : Int32} (he : ev_at m k = some (.ifCond .ge o, len, .ref t)) (h1 : 0 ≤ x → ev_T d m t ls r σ P) (h2 : ¬ 0 ≤ x → ev_T d m (k + len) ls r σ P) : ev_T d m k ls (.int x :: r) σ P := by
  refine ev_T.ifc he ?_
  by_cases c : 0 ≤ x
  · simp only [ev_holds, decide_eq_true_eq]; rw [if_pos c]; exact h1 c
  · simp only [ev_holds, decide_eq_true_eq]; rw [if_neg c]; exact h2 c
theorem ev_T.if_gt {o : Int} {len t : Nat} {x : Int32} (he : ev_at m k = some (.ifCond .gt o, len, .ref t)) (h1 : 0 < x → ev_T d m t ls r σ P) (h2 : ¬ 0 < x → ev_T d m (k + len) ls r σ P) : ev_T d m k ls (.int x :: r) σ P := by
  refine ev_T.ifc he ?_
  by_cases c : 0 < x
  · simp only [ev_holds, decide_eq_true_eq]; rw [if_pos c]; exact h1 c
  · simp only [ev_holds, decide_eq_true_eq]; rw [if_neg c]; exact h2 c
theorem ev_T.if_le {o : Int} {len t : Nat} {x : Int32} (he : ev_at m k = some (.ifCond .le o, len, .ref t)) (h1 : x ≤ 0 → ev_T d m t ls r σ P) (h2 : ¬ x ≤ 0 → ev_T d m (k + len) ls r σ P) : ev_T d m k ls (.int x :: r) σ P := by
  refine ev_T.ifc he ?_
  by_cases c : x ≤ 0
  · simp only [ev_holds, decide_eq_true_eq]; rw [if_pos c]; exact h1 c
  · simp only [ev_holds, decide_eq_true_eq]; rw [if_neg c]; exact h2 c
theorem ev_ald_in {t a n : Nat} {i : Int32} {f : Value → Option ev_O} (hin : vp_in i n) (hl : ev_len σ a = some (t, n)) : ev_ald σ t a i f = f (ev_get σ a i.toNatClampNeg) := by
  unfold ev_ald
  rw [hl]
  dsimp only
  rw [if_pos rfl, if_neg hin]
theorem ev_T.iald {lk : Value} {a n : Nat} {i : Int32} {v : Value} (he : ev_at m k = some (.iaload, 1, lk)) (hin : vp_in i n) (hl : ev_len σ a = some (0, n)) (hv : ev_get σ a i.toNatClampNeg = v) (h : ev_T d m (k + 1) ls (v :: r) σ P) : ev_T d m k ls (.int i :: .ref a :: r) σ P :=
  ev_T.step he (by simp only [ev_step, ev_ri, ev_ald_in hin hl, hv]; rfl) h
theorem ev_T.cald {lk : Value} {a n : Nat} {i : Int32} {v : Value} (he : ev_at m k = some (.caload, 1, lk)) (hin : vp_in i n) (hl : ev_len σ a = some (1, n)) (hv : ev_get σ a i.toNatClampNeg = v) (h : ev_T d m (k + 1) ls (v :: r) σ P) : ev_T d m k ls (.int i :: .ref a :: r) σ P :=
  ev_T.step he (by simp only [ev_step, ev_ri, ev_ald_in hin hl, hv]; rfl) h
theorem ev_T.zald {lk : Value} {a n : Nat} {i : Int32} {v : Value} (he : ev_at m k = some (.baload, 1, lk)) (hin : vp_in i n) (hl : ev_len σ a = some (if a < 1000 then 3 else 2, n)) (hv : ev_get σ a i.toNatClampNeg = v) (h : ev_T d m (k + 1) ls (v :: r) σ P) : ev_T d m k ls (.int i :: .ref a :: r) σ P :=
  ev_T.step he (by simp only [ev_step, ev_ri, ev_ald_in hin hl, hv]; rfl) h
theorem ev_T.aald {lk : Value} {a n : Nat} {i : Int32} {v : Value} (he : ev_at m k = some (.aaload, 1, lk)) (hin : vp_in i n) (hl : ev_len σ a = some (4, n)) (hv : ev_get σ a i.toNatClampNeg = v) (h : ev_T d m (k + 1) ls (v :: r) σ P) : ev_T d m k ls (.int i :: .ref a :: r) σ P :=
  ev_T.step he (by simp only [ev_step, ev_ri, ev_ald_in hin hl, hv]; rfl) h
theorem ev_ast_in {t a n : Nat} {i v : Int32} {f : ev_M → Option ev_O} (ha : ¬ a < 1000) (hin : vp_in i n) (hl : ev_len σ a = some (t, n)) : ev_ast σ t a i v f = f (σ.1, σ.2.1, σ.2.2.1, ev_upd σ.2.2.2 a i.toNatClampNeg v) := by
  unfold ev_ast
  rw [if_neg ha, hl]
  dsimp only
  rw [if_pos rfl, if_neg hin]
theorem ev_T.iast {lk : Value} {a n : Nat} {i v : Int32} (he : ev_at m k = some (.iastore, 1, lk)) (hin : vp_in i n) (ha : ¬ a < 1000) (hl : ev_len (1057, 55, I, A) a = some (0, n)) (h : ev_T d m (k + 1) ls r (1057, 55, I, ev_upd A a i.toNatClampNeg v) P) : ev_T d m k ls (.int v :: .int i :: .ref a :: r) (1057, 55, I, A) P :=
  ev_T.step he (by simp only [ev_step, ev_rii, ev_ast_in ha hin hl]; rfl) h
theorem ev_T.cast {lk : Value} {a n : Nat} {i v : Int32} (he : ev_at m k = some (.castore, 1, lk)) (hin : vp_in i n) (ha : ¬ a < 1000) (hl : ev_len (1057, 55, I, A) a = some (1, n)) (h : ev_T d m (k + 1) ls r (1057, 55, I, ev_upd A a i.toNatClampNeg (vp_nar .char v)) P) : ev_T d m k ls (.int v :: .int i :: .ref a :: r) (1057, 55, I, A) P :=
  ev_T.step he (by simp only [ev_step, ev_rii, ev_ast_in ha hin hl]; rfl) h
theorem ev_T.zast {lk : Value} {a n : Nat} {i v : Int32} (he : ev_at m k = some (.bastore, 1, lk)) (hin : vp_in i n) (ha : ¬ a < 1000) (hl : ev_len (1057, 55, I, A) a = some (2, n)) (h : ev_T d m (k + 1) ls r (1057, 55, I, ev_upd A a i.toNatClampNeg (vp_nar .boolean v)) P) : ev_T d m k ls (.int v :: .int i :: .ref a :: r) (1057, 55, I, A) P :=
  ev_T.step he (by simp only [ev_step, ev_rii, ev_ast_in ha hin hl]; rfl) h
theorem ev_T.getf {j len x n : Nat} {v : Value} (he : ev_at m k = some (.getfield j, len, .ref n)) (hg : ev_getf σ x (n % 100000) = some v) (h : ev_T d m (k + len) ls (v :: r) σ P) : ev_T d m k ls (.ref x :: r) σ P :=
  ev_T.step he (by simp only [ev_step, ev_r, hg]; rfl) h
theorem ev_T.geto {j len x n : Nat} {v : Value} (he : ev_at m k = some (.getfield j, len, .ref n)) (hx : x < 1000) (hg : ev_of x (n % 100000) = some v) (h : ev_T d m (k + len) ls (v :: r) σ P) : ev_T d m k ls (.ref x :: r) σ P :=
  ev_T.getf he (by unfold ev_getf; rw [if_pos hx]; exact hg) h
theorem ev_T.ifnull_r {o : Int} {len t x : Nat} (he : ev_at m k = some (.ifnull o, len, .ref t)) (hx : 400 ≤ x ∧ x < 454) (h : ev_T d m (k + len) ls r σ P) : ev_T d m k ls (.ref x :: r) σ P :=
  ev_T.step he (by simp only [ev_step, ev_q, ev_tg, hx, and_self, if_true]; rfl) h
theorem ev_T.ifnonnull_r {o : Int} {len t x : Nat} (he : ev_at m k = some (.ifnonnull o, len, .ref t)) (hx : 400 ≤ x ∧ x < 454) (h : ev_T d m t ls r σ P) : ev_T d m k ls (.ref x :: r) σ P :=
  ev_T.step he (by simp only [ev_step, ev_q, ev_tg, hx, and_self, if_true]; rfl) h
theorem ev_T.acmp_eq {o : Int} {len t x y : Nat} (he : ev_at m k = some (.if_acmp .eq o, len, .ref t)) (hx : 400 ≤ x ∧ x < 454) (hy : 400 ≤ y ∧ y < 454) (h1 : x = y → ev_T d m t ls r σ P) (h2 : ¬ x = y → ev_T d m (k + len) ls r σ P) : ev_T d m k ls (.ref y :: .ref x :: r) σ P := by
  by_cases c : x = y
  · subst c
    exact ev_T.step he (by simp [ev_step, ev_q, ev_tg, hx]; rfl) (h1 rfl)
  · exact ev_T.step he (by simp [ev_step, ev_q, ev_tg, hx, hy, c]; rfl) (h2 c)
theorem ev_T.acmp_ne {o : Int} {len t x y : Nat} (he : ev_at m k = some (.if_acmp .ne o, len, .ref t)) (hx : 400 ≤ x ∧ x < 454) (hy : 400 ≤ y ∧ y < 454) (h1 : x = y → ev_T d m (k + len) ls r σ P) (h2 : ¬ x = y → ev_T d m t ls r σ P) : ev_T d m k ls (.ref y :: .ref x :: r) σ P := by
  by_cases c : x = y
  · subst c
    exact ev_T.step he (by simp [ev_step, ev_q, ev_tg, hx]; rfl) (h1 rfl)
  · exact ev_T.step he (by simp [ev_step, ev_q, ev_tg, hx, hy, c]; rfl) (h2 c)
theorem ev_T.swd {dd lo hi : Int} {offs : Array Int} {len : Nat} {lk : Value} {x : Int32} {t : Nat} (he : ev_at m k = some (.tableswitch dd lo hi offs, len, lk)) (hd : x.toInt < lo ∨ hi < x.toInt) (ht : (if 0 ≤ (k : Int) + dd then some ((k : Int) + dd).toNat else none) = some t) (h : ev_T d m t ls r σ P) : ev_T d m k ls (.int x :: r) σ P :=
  ev_T.step he (by simp only [ev_step, ev_i, ev_sw, if_pos hd, ht]; rfl) h
theorem ev_T.cpy {j len a b na nb : Nat} {sp dp n : Int32} (he : ev_at m k = some (.invokestatic j, len, .null)) (hcat : ev_cat r ≤ 8) (ha : ¬ a < 1000) (hb : ¬ b < 1000) (hla : ev_len (1057, 55, I, A) a = some (0, na)) (hlb : ev_len (1057, 55, I, A) b = some (0, nb)) (hc : ev_cpok sp dp n na nb)
    (h : ev_T d m (k + len) ls r (1057, 55, I, ev_cp A a b sp dp n) P) : ev_T d m k ls (.int n :: .int dp :: .ref b :: .int sp :: .ref a :: r) (1057, 55, I, A) P := by
  refine ev_T.step he ?_ h
  obtain ⟨h1, h2, h3, h4, h5⟩ := hc
  simp only [ev_step, if_true, ev_copy, hla, hlb]
  rw [if_neg (fun q => q.elim ha (fun q => q.elim hb (fun q => absurd q (Nat.not_lt.mpr hcat)))), if_neg]
  · rfl
  · rintro (q | q | q | q | q)
    · exact h1 q
    · exact h2 q
    · exact h3 q
    · omega
    · omega
end EVT

/-! ONE STEP: what the stack must hold, and each instruction -/
theorem ev_i_some {α : Type} {st : List Value} {f : Int32 → List Value → Option α} {z : α} (h : ev_i st f = some z) : ∃ x r, st = .int x :: r ∧ f x r = some z := by
  unfold ev_i at h
  split at h
  · exact ⟨_, _, rfl, h⟩
  · cases h
theorem ev_ii_some {α : Type} {st : List Value} {f : Int32 → Int32 → List Value → Option α} {z : α} (h : ev_ii st f = some z) : ∃ x y r, st = .int y :: .int x :: r ∧ f x y r = some z := by
  unfold ev_ii at h
  split at h
  · exact ⟨_, _, _, rfl, h⟩
  · cases h
theorem ev_l_some {α : Type} {st : List Value} {f : Int64 → List Value → Option α} {z : α} (h : ev_l st f = some z) : ∃ x r, st = .long x :: r ∧ f x r = some z := by
  unfold ev_l at h
  split at h
  · exact ⟨_, _, rfl, h⟩
  · cases h
theorem ev_ll_some {α : Type} {st : List Value} {f : Int64 → Int64 → List Value → Option α} {z : α} (h : ev_ll st f = some z) : ∃ x y r, st = .long y :: .long x :: r ∧ f x y r = some z := by
  unfold ev_ll at h
  split at h
  · exact ⟨_, _, _, rfl, h⟩
  · cases h
theorem ev_li_some {α : Type} {st : List Value} {f : Int64 → Int32 → List Value → Option α} {z : α} (h : ev_li st f = some z) : ∃ x y r, st = .int y :: .long x :: r ∧ f x y r = some z := by
  unfold ev_li at h
  split at h
  · exact ⟨_, _, _, rfl, h⟩
  · cases h
theorem ev_r_some {α : Type} {st : List Value} {f : Nat → List Value → Option α} {z : α} (h : ev_r st f = some z) : ∃ x r, st = .ref x :: r ∧ f x r = some z := by
  unfold ev_r at h
  split at h
  · exact ⟨_, _, rfl, h⟩
  · cases h
theorem ev_ri_some {α : Type} {st : List Value} {f : Nat → Int32 → List Value → Option α} {z : α} (h : ev_ri st f = some z) : ∃ a i r, st = .int i :: .ref a :: r ∧ f a i r = some z := by
  unfold ev_ri at h
  split at h
  · exact ⟨_, _, _, rfl, h⟩
  · cases h
theorem ev_rii_some {α : Type} {st : List Value} {f : Nat → Int32 → Int32 → List Value → Option α} {z : α} (h : ev_rii st f = some z) : ∃ a i x r, st = .int x :: .int i :: .ref a :: r ∧ f a i x r = some z := by
  unfold ev_rii at h
  split at h
  · exact ⟨_, _, _, _, rfl, h⟩
  · cases h
theorem ev_rv_some {α : Type} {st : List Value} {f : Nat → Value → List Value → Option α} {z : α} (h : ev_rv st f = some z) : ∃ a v r, st = v :: .ref a :: r ∧ f a v r = some z := by
  unfold ev_rv at h
  split at h
  · exact ⟨_, _, _, rfl, h⟩
  · cases h
theorem ev_1_some {α : Type} {st : List Value} {f : Value → List Value → Option α} {z : α} (h : ev_1 st f = some z) : ∃ v r, st = v :: r ∧ v.category = 1 ∧ f v r = some z := by
  unfold ev_1 at h
  split at h
  · exact ⟨_, _, rfl, rfl, h⟩
  · exact ⟨_, _, rfl, rfl, h⟩
  · exact ⟨_, _, rfl, rfl, h⟩
  · cases h
theorem ev_q_some {α : Type} {st : List Value} {f : Option Nat → List Value → Option α} {z : α} (h : ev_q st f = some z) : ∃ x r, st = va_rf x :: r ∧ f x r = some z := by
  unfold ev_q at h
  split at h
  · exact ⟨some _, _, rfl, h⟩
  · exact ⟨none, _, rfl, h⟩
  · cases h
theorem ev_ldi_some {ls : List (Option Value)} {i : Nat} {f : Value → Option ev_O} {z : ev_O} (h : ev_ldi ls i f = some z) : ∃ x, ls[i]? = some (some (.int x)) ∧ f (.int x) = some z := by
  unfold ev_ldi at h
  split at h
  · exact ⟨_, by assumption, h⟩
  · cases h
theorem ev_ldl_some {ls : List (Option Value)} {i : Nat} {f : Value → Option ev_O} {z : ev_O} (h : ev_ldl ls i f = some z) : ∃ x, ls[i]? = some (some (.long x)) ∧ f (.long x) = some z := by
  unfold ev_ldl at h
  split at h
  · exact ⟨_, by assumption, h⟩
  · cases h
theorem ev_lda_some {ls : List (Option Value)} {i : Nat} {f : Value → Option ev_O} {z : ev_O} (h : ev_lda ls i f = some z) : ∃ x, ls[i]? = some (some (va_rf x)) ∧ f (va_rf x) = some z := by
  unfold ev_lda at h
  split at h
  · exact ⟨some _, by assumption, h⟩
  · exact ⟨none, by assumption, h⟩
  · cases h
theorem ev_tg_some {lk : Value} {f : Nat → Option ev_O} {z : ev_O} (h : ev_tg lk f = some z) : ∃ t, lk = .ref t ∧ f t = some z := by
  unfold ev_tg at h
  split at h
  · exact ⟨_, rfl, h⟩
  · cases h
theorem ev_rf_av {V : Nat → Value} {B : Nat} (hV : ev_V V B) (x : Option Nat) : ev_av V (va_rf x) = .null ∨ ∃ a, ev_av V (va_rf x) = .ref a := by
  cases x with
  | none => exact Or.inl rfl
  | some y => exact hV.1 y
theorem ev_sw_some {k : Nat} {d lo hi : Int} {offs : Array Int} {x : Int32} {t : Nat} (h : ev_sw k d lo hi offs x = some t) :
    ((x.toInt < lo ∨ hi < x.toInt) ∧ (k : Int) + d = (t : Int)) ∨ (¬ x.toInt < lo ∧ ¬ hi < x.toInt ∧ ∃ o, offs[(x.toInt - lo).toNat]? = some o ∧ (k : Int) + o = (t : Int)) := by
  unfold ev_sw at h
  split at h
  · rename_i hc
    split at h
    · cases h
      exact Or.inl ⟨hc, by omega⟩
    · cases h
  · rename_i hc
    split at h
    · rename_i o ho
      split at h
      · cases h
        exact Or.inr ⟨fun q => hc (Or.inl q), fun q => hc (Or.inr q), o, by rw [← Array.getElem?_toList]; exact ho, by omega⟩
      · cases h
    · cases h
def ev_isA (i : Instr) : Bool := match i with
  | .iconst _ => true
  | .bipush _ => true
  | .sipush _ => true
  | .lconst _ => true
  | .aconst_null => true
  | .iload_n _ => true
  | .iload _ => true
  | .aload_n _ => true
  | .aload _ => true
  | .lload_n _ => true
  | .lload _ => true
  | .istore_n _ => true
  | .istore _ => true
  | .astore_n _ => true
  | .astore _ => true
  | .lstore_n _ => true
  | .lstore _ => true
  | .iinc _ _ => true
  | .iadd => true
  | .isub => true
  | .imul => true
  | .iand => true
  | .ior => true
  | .ixor => true
  | .ishl => true
  | .ishr => true
  | .iushr => true
  | .i2c => true
  | .l2i => true
  | .land => true
  | .lcmp => true
  | .lshr => true
  | .dup => true
  | .pop => true
  | .ifCond _ _ => true
  | .if_icmp _ _ => true
  | .goto _ => true
  | .ifnull _ => true
  | .ifnonnull _ => true
  | .if_acmp _ _ => true
  | .tableswitch _ _ _ _ => true
  | _ => false
section EVS
variable {p : Program} {l : Launch} {en : Env} {R : Room} {s : State} {mid : MethodId} {args : Array Value} {below : List Frame} {meth : Method} {c : Code} {H : Heap} {locs : List Loc} {Q : State → Prop}
variable {B : Nat} {V : Nat → Value} {dC : Nat → ClassId} {dI : Nat → Nat → Nat} {dA : Nat → ClassId}
set_option maxHeartbeats 4000000 in
/-- an instruction that touches no cell -/
theorem ev_stepA (hV : ev_V V B) {y : MethodName} {bytes : ByteArray} {nL : Nat} (hx : p.tables.exec = Jvm.exec) (hb : c.code = bytes) {cells slots m k : Nat} {i : Instr} {len : Nat} {lk : Value} {pl : List Nat} (hck : ev_ck y bytes k (i, len, lk) pl = true)
    {ls ls' : List (Option Value)} {st st' : List Value} {σ σ' : ev_M} {k' : Nat} (hs : ev_step m k (i, len, lk) ls st σ = some (.inl (k', ls', st', σ'))) {lsR : Array Slot} (hl : ev_ls V nL ls lsR)
    (kk : ∀ lsR' : Array Slot, ev_ls V nL ls' lsR' → W p l en R s mid args below meth c H locs cells slots Q (F0 mid k' lsR' (st'.map (ev_av V))))
    (hi : ev_isA i = true) :
    σ' = σ ∧ W p l en R s mid args below meth c H locs cells slots Q (F0 mid k lsR (st.map (ev_av V))) := by
  simp only [ev_ck, Bool.and_eq_true, decide_eq_true_eq, Bool.or_eq_true] at hck
  obtain ⟨⟨hd, hln⟩, hm⟩ := hck
  cases i with
  | iconst n =>
    obtain rfl : len = 1 := by simpa [ev_ilen] using hln
    dsimp only [ev_step] at hs
    obtain ⟨rfl, rfl, rfl, rfl⟩ := ev_next_some hs
    exact ⟨rfl, lv_iconst hx hb hd rfl (kk _ hl)⟩
  | bipush n =>
    obtain rfl : len = 2 := by simpa [ev_ilen] using hln
    dsimp only [ev_step] at hs
    obtain ⟨rfl, rfl, rfl, rfl⟩ := ev_next_some hs
    exact ⟨rfl, lv_bipush hx hb hd rfl (kk _ hl)⟩
  | sipush n =>
    obtain rfl : len = 3 := by simpa [ev_ilen] using hln
    dsimp only [ev_step] at hs
    obtain ⟨rfl, rfl, rfl, rfl⟩ := ev_next_some hs
    exact ⟨rfl, lv_sipush hx hb hd rfl (kk _ hl)⟩
  | lconst n =>
    obtain rfl : len = 1 := by simpa [ev_ilen] using hln
    dsimp only [ev_step] at hs
    obtain ⟨rfl, rfl, rfl, rfl⟩ := ev_next_some hs
    exact ⟨rfl, lv_lconst hx hb hd rfl (kk _ hl)⟩
  | aconst_null =>
    obtain rfl : len = 1 := by simpa [ev_ilen] using hln
    dsimp only [ev_step] at hs
    obtain ⟨rfl, rfl, rfl, rfl⟩ := ev_next_some hs
    exact ⟨rfl, lv_null hx hb hd (kk _ hl)⟩
  | iload_n n =>
    obtain rfl : len = 1 := by simpa [ev_ilen] using hln
    dsimp only [ev_step] at hs
    obtain ⟨x, h1, h2⟩ := ev_ldi_some hs
    obtain ⟨rfl, rfl, rfl, rfl⟩ := ev_next_some h2
    exact ⟨rfl, lv_iload_n hx hb hd rfl (hl.at h1) (kk _ hl)⟩
  | iload n =>
    obtain rfl : len = 2 := by simpa [ev_ilen] using hln
    dsimp only [ev_step] at hs
    obtain ⟨x, h1, h2⟩ := ev_ldi_some hs
    obtain ⟨rfl, rfl, rfl, rfl⟩ := ev_next_some h2
    exact ⟨rfl, lv_iload hx hb hd (hl.at h1) (kk _ hl)⟩
  | lload_n n =>
    obtain rfl : len = 1 := by simpa [ev_ilen] using hln
    dsimp only [ev_step] at hs
    obtain ⟨x, h1, h2⟩ := ev_ldl_some hs
    obtain ⟨rfl, rfl, rfl, rfl⟩ := ev_next_some h2
    exact ⟨rfl, lv_lload_n hx hb hd rfl (hl.at h1) (kk _ hl)⟩
  | lload n =>
    obtain rfl : len = 2 := by simpa [ev_ilen] using hln
    dsimp only [ev_step] at hs
    obtain ⟨x, h1, h2⟩ := ev_ldl_some hs
    obtain ⟨rfl, rfl, rfl, rfl⟩ := ev_next_some h2
    exact ⟨rfl, lv_lload hx hb hd (hl.at h1) (kk _ hl)⟩
  | aload_n n =>
    obtain rfl : len = 1 := by simpa [ev_ilen] using hln
    dsimp only [ev_step] at hs
    obtain ⟨x, h1, h2⟩ := ev_lda_some hs
    obtain ⟨rfl, rfl, rfl, rfl⟩ := ev_next_some h2
    have h3 := hl.at h1
    have h4 := kk _ hl
    rw [List.map_cons] at h4
    rcases ev_rf_av hV x with h0 | ⟨a, h0⟩ <;> rw [h0] at h3 h4
    · exact ⟨rfl, lv_aload_nN hx hb hd rfl h3 h4⟩
    · exact ⟨rfl, lv_aload_n hx hb hd rfl h3 h4⟩
  | aload n =>
    obtain rfl : len = 2 := by simpa [ev_ilen] using hln
    dsimp only [ev_step] at hs
    obtain ⟨x, h1, h2⟩ := ev_lda_some hs
    obtain ⟨rfl, rfl, rfl, rfl⟩ := ev_next_some h2
    have h3 := hl.at h1
    have h4 := kk _ hl
    rw [List.map_cons] at h4
    rcases ev_rf_av hV x with h0 | ⟨a, h0⟩ <;> rw [h0] at h3 h4
    · exact ⟨rfl, lv_aloadN hx hb hd h3 h4⟩
    · exact ⟨rfl, lv_aload hx hb hd h3 h4⟩
  | istore_n n =>
    obtain rfl : len = 1 := by simpa [ev_ilen] using hln
    dsimp only [ev_step] at hs
    obtain ⟨x, r, rfl, h⟩ := ev_i_some hs
    obtain ⟨l1, h1, h2⟩ := Option.bind_eq_some_iff.mp h
    obtain ⟨rfl, rfl, rfl, rfl⟩ := ev_next_some h2
    have hlt : (n : Nat) < nL := by rw [← hl.1]; exact (ev_set_some h1).1
    exact ⟨rfl, lv_istore_n hx hb hd rfl hl.2 hlt rfl fun lsR' h' => kk lsR' (ev_ls.set hV hl.1 h1 rfl h')⟩
  | istore n =>
    obtain rfl : len = 2 := by simpa [ev_ilen] using hln
    dsimp only [ev_step] at hs
    obtain ⟨x, r, rfl, h⟩ := ev_i_some hs
    obtain ⟨l1, h1, h2⟩ := Option.bind_eq_some_iff.mp h
    obtain ⟨rfl, rfl, rfl, rfl⟩ := ev_next_some h2
    have hlt : (n : Nat) < nL := by rw [← hl.1]; exact (ev_set_some h1).1
    exact ⟨rfl, lv_istore hx hb hd hl.2 hlt rfl fun lsR' h' => kk lsR' (ev_ls.set hV hl.1 h1 rfl h')⟩
  | astore_n n =>
    obtain rfl : len = 1 := by simpa [ev_ilen] using hln
    dsimp only [ev_step] at hs
    obtain ⟨x, r, rfl, h⟩ := ev_q_some hs
    obtain ⟨l1, h1, h2⟩ := Option.bind_eq_some_iff.mp h
    obtain ⟨rfl, rfl, rfl, rfl⟩ := ev_next_some h2
    have hlt : (n : Nat) < nL := by rw [← hl.1]; exact (ev_set_some h1).1
    refine ⟨rfl, ?_⟩
    rw [List.map_cons]
    rcases ev_rf_av hV x with h0 | ⟨a, h0⟩ <;> rw [h0]
    · exact lv_astore_nN hx hb hd rfl hl.2 hlt rfl fun lsR' h' => kk lsR' (ev_ls.set hV hl.1 h1 h0.symm h')
    · exact lv_astore_n hx hb hd rfl hl.2 hlt rfl fun lsR' h' => kk lsR' (ev_ls.set hV hl.1 h1 h0.symm h')
  | astore n =>
    obtain rfl : len = 2 := by simpa [ev_ilen] using hln
    dsimp only [ev_step] at hs
    obtain ⟨x, r, rfl, h⟩ := ev_q_some hs
    obtain ⟨l1, h1, h2⟩ := Option.bind_eq_some_iff.mp h
    obtain ⟨rfl, rfl, rfl, rfl⟩ := ev_next_some h2
    have hlt : (n : Nat) < nL := by rw [← hl.1]; exact (ev_set_some h1).1
    refine ⟨rfl, ?_⟩
    rw [List.map_cons]
    rcases ev_rf_av hV x with h0 | ⟨a, h0⟩ <;> rw [h0]
    · exact lv_astoreN hx hb hd hl.2 hlt rfl fun lsR' h' => kk lsR' (ev_ls.set hV hl.1 h1 h0.symm h')
    · exact lv_astore hx hb hd hl.2 hlt rfl fun lsR' h' => kk lsR' (ev_ls.set hV hl.1 h1 h0.symm h')
  | lstore_n n =>
    obtain rfl : len = 1 := by simpa [ev_ilen] using hln
    dsimp only [ev_step] at hs
    obtain ⟨x, r, rfl, h⟩ := ev_l_some hs
    obtain ⟨l1, h1, h2⟩ := Option.bind_eq_some_iff.mp h
    obtain ⟨rfl, rfl, rfl, rfl⟩ := ev_next_some h2
    have hlt : (n : Nat) + 1 < nL := by rw [← hl.1]; exact (ev_setL_some h1).1
    exact ⟨rfl, lv_lstore_n hx hb hd rfl hl.2 hlt rfl fun lsR' h' => kk lsR' (ev_ls.setL hV hl.1 h1 h')⟩
  | lstore n =>
    obtain rfl : len = 2 := by simpa [ev_ilen] using hln
    dsimp only [ev_step] at hs
    obtain ⟨x, r, rfl, h⟩ := ev_l_some hs
    obtain ⟨l1, h1, h2⟩ := Option.bind_eq_some_iff.mp h
    obtain ⟨rfl, rfl, rfl, rfl⟩ := ev_next_some h2
    have hlt : (n : Nat) + 1 < nL := by rw [← hl.1]; exact (ev_setL_some h1).1
    exact ⟨rfl, lv_lstore hx hb hd hl.2 hlt rfl fun lsR' h' => kk lsR' (ev_ls.setL hV hl.1 h1 h')⟩
  | iinc n z =>
    obtain rfl : len = 3 := by simpa [ev_ilen] using hln
    dsimp only [ev_step] at hs
    split at hs
    · rename_i x hx0
      obtain ⟨l1, h1, h2⟩ := Option.bind_eq_some_iff.mp hs
      obtain ⟨rfl, rfl, rfl, rfl⟩ := ev_next_some h2
      have hlt : (n : Nat) < nL := by rw [← hl.1]; exact (ev_set_some h1).1
      obtain ⟨j, hj⟩ := List.getElem?_of_mem (ev_pairs_mem.mpr ⟨_, hx0, rfl⟩ : (n, ev_av V (.int x)) ∈ ev_pairs V ls)
      exact ⟨rfl, lv_iinc hx hb hd hl.2 hj rfl hlt rfl fun lsR' h' => kk lsR' (ev_ls.set hV hl.1 h1 rfl h')⟩
    · cases hs
  | iadd =>
    obtain rfl : len = 1 := by simpa [ev_ilen] using hln
    dsimp only [ev_step] at hs
    obtain ⟨x, y, r, rfl, h⟩ := ev_ii_some hs
    obtain ⟨rfl, rfl, rfl, rfl⟩ := ev_next_some h
    exact ⟨rfl, lv_iadd hx hb hd (kk _ hl)⟩
  | isub =>
    obtain rfl : len = 1 := by simpa [ev_ilen] using hln
    dsimp only [ev_step] at hs
    obtain ⟨x, y, r, rfl, h⟩ := ev_ii_some hs
    obtain ⟨rfl, rfl, rfl, rfl⟩ := ev_next_some h
    exact ⟨rfl, lv_isub hx hb hd (kk _ hl)⟩
  | imul =>
    obtain rfl : len = 1 := by simpa [ev_ilen] using hln
    dsimp only [ev_step] at hs
    obtain ⟨x, y, r, rfl, h⟩ := ev_ii_some hs
    obtain ⟨rfl, rfl, rfl, rfl⟩ := ev_next_some h
    exact ⟨rfl, lv_imul hx hb hd (kk _ hl)⟩
  | iand =>
    obtain rfl : len = 1 := by simpa [ev_ilen] using hln
    dsimp only [ev_step] at hs
    obtain ⟨x, y, r, rfl, h⟩ := ev_ii_some hs
    obtain ⟨rfl, rfl, rfl, rfl⟩ := ev_next_some h
    exact ⟨rfl, lv_iand hx hb hd (kk _ hl)⟩
  | ior =>
    obtain rfl : len = 1 := by simpa [ev_ilen] using hln
    dsimp only [ev_step] at hs
    obtain ⟨x, y, r, rfl, h⟩ := ev_ii_some hs
    obtain ⟨rfl, rfl, rfl, rfl⟩ := ev_next_some h
    exact ⟨rfl, lv_ior hx hb hd (kk _ hl)⟩
  | ixor =>
    obtain rfl : len = 1 := by simpa [ev_ilen] using hln
    dsimp only [ev_step] at hs
    obtain ⟨x, y, r, rfl, h⟩ := ev_ii_some hs
    obtain ⟨rfl, rfl, rfl, rfl⟩ := ev_next_some h
    exact ⟨rfl, lv_ixor hx hb hd (kk _ hl)⟩
  | ishl =>
    obtain rfl : len = 1 := by simpa [ev_ilen] using hln
    dsimp only [ev_step] at hs
    obtain ⟨x, y, r, rfl, h⟩ := ev_ii_some hs
    obtain ⟨rfl, rfl, rfl, rfl⟩ := ev_next_some h
    exact ⟨rfl, lv_ishl hx hb hd (kk _ hl)⟩
  | ishr =>
    obtain rfl : len = 1 := by simpa [ev_ilen] using hln
    dsimp only [ev_step] at hs
    obtain ⟨x, y, r, rfl, h⟩ := ev_ii_some hs
    obtain ⟨rfl, rfl, rfl, rfl⟩ := ev_next_some h
    exact ⟨rfl, lv_ishr hx hb hd (kk _ hl)⟩
  | iushr =>
    obtain rfl : len = 1 := by simpa [ev_ilen] using hln
    dsimp only [ev_step] at hs
    obtain ⟨x, y, r, rfl, h⟩ := ev_ii_some hs
    obtain ⟨rfl, rfl, rfl, rfl⟩ := ev_next_some h
    exact ⟨rfl, lv_iushr hx hb hd rfl (kk _ hl)⟩
  | i2c =>
    obtain rfl : len = 1 := by simpa [ev_ilen] using hln
    dsimp only [ev_step] at hs
    obtain ⟨x, r, rfl, h⟩ := ev_i_some hs
    obtain ⟨rfl, rfl, rfl, rfl⟩ := ev_next_some h
    exact ⟨rfl, lv_i2c hx hb hd rfl (kk _ hl)⟩
  | l2i =>
    obtain rfl : len = 1 := by simpa [ev_ilen] using hln
    dsimp only [ev_step] at hs
    obtain ⟨x, r, rfl, h⟩ := ev_l_some hs
    obtain ⟨rfl, rfl, rfl, rfl⟩ := ev_next_some h
    exact ⟨rfl, lv_l2i hx hb hd rfl (kk _ hl)⟩
  | land =>
    obtain rfl : len = 1 := by simpa [ev_ilen] using hln
    dsimp only [ev_step] at hs
    obtain ⟨x, y, r, rfl, h⟩ := ev_ll_some hs
    obtain ⟨rfl, rfl, rfl, rfl⟩ := ev_next_some h
    exact ⟨rfl, lv_land hx hb hd (kk _ hl)⟩
  | lcmp =>
    obtain rfl : len = 1 := by simpa [ev_ilen] using hln
    dsimp only [ev_step] at hs
    obtain ⟨x, y, r, rfl, h⟩ := ev_ll_some hs
    obtain ⟨rfl, rfl, rfl, rfl⟩ := ev_next_some h
    exact ⟨rfl, W.lcmp hx hb hd (kk _ hl)⟩
  | lshr =>
    obtain rfl : len = 1 := by simpa [ev_ilen] using hln
    dsimp only [ev_step] at hs
    obtain ⟨x, y, r, rfl, h⟩ := ev_li_some hs
    obtain ⟨rfl, rfl, rfl, rfl⟩ := ev_next_some h
    exact ⟨rfl, lv_lshr hx hb hd rfl (kk _ hl)⟩
  | dup =>
    obtain rfl : len = 1 := by simpa [ev_ilen] using hln
    dsimp only [ev_step] at hs
    obtain ⟨v, r, rfl, hc1, h⟩ := ev_1_some hs
    obtain ⟨rfl, rfl, rfl, rfl⟩ := ev_next_some h
    exact ⟨rfl, lv_dup hx hb hd ((ev_av_cat hV v).trans hc1) (kk _ hl)⟩
  | pop =>
    obtain rfl : len = 1 := by simpa [ev_ilen] using hln
    dsimp only [ev_step] at hs
    obtain ⟨v, r, rfl, hc1, h⟩ := ev_1_some hs
    obtain ⟨rfl, rfl, rfl, rfl⟩ := ev_next_some h
    exact ⟨rfl, lv_pop hx hb hd ((ev_av_cat hV v).trans hc1) (kk _ hl)⟩
  | ifCond q o =>
    obtain rfl : len = 3 := by simpa [ev_ilen] using hln
    dsimp only [ev_step] at hs
    obtain ⟨x, r, rfl, h⟩ := ev_i_some hs
    obtain ⟨t, rfl, h⟩ := ev_tg_some h
    obtain ⟨hk, rfl, rfl, rfl⟩ := ev_next_some h
    have hj : (k : Int) + o = (t : Int) := by simpa [ev_ckJ] using hm
    refine ⟨rfl, ?_⟩
    cases q with
    | eq => exact lv_if_eq hx hb hd hj (fun c1 => by simp only [ev_holds, decide_eq_true_eq] at hk; rw [if_pos c1] at hk; subst hk; exact kk _ hl) (fun c1 => by simp only [ev_holds, decide_eq_true_eq] at hk; rw [if_neg (c1)] at hk; subst hk; exact kk _ hl)
    | ne => exact lv_if_ne hx hb hd hj (fun c1 => by simp only [ev_holds, decide_eq_true_eq] at hk; rw [if_pos c1] at hk; subst hk; exact kk _ hl) (fun c1 => by simp only [ev_holds, decide_eq_true_eq] at hk; rw [if_neg (not_not_intro c1)] at hk; subst hk; exact kk _ hl)
    | lt => exact lv_if_lt hx hb hd hj (fun c1 => by simp only [ev_holds, decide_eq_true_eq] at hk; rw [if_pos c1] at hk; subst hk; exact kk _ hl) (fun c1 => by simp only [ev_holds, decide_eq_true_eq] at hk; rw [if_neg (c1)] at hk; subst hk; exact kk _ hl)
    | ge => exact lv_if_ge hx hb hd hj (fun c1 => by simp only [ev_holds, decide_eq_true_eq] at hk; rw [if_pos c1] at hk; subst hk; exact kk _ hl) (fun c1 => by simp only [ev_holds, decide_eq_true_eq] at hk; rw [if_neg (c1)] at hk; subst hk; exact kk _ hl)
    | gt => exact lv_if_gt hx hb hd hj (fun c1 => by simp only [ev_holds, decide_eq_true_eq] at hk; rw [if_pos c1] at hk; subst hk; exact kk _ hl) (fun c1 => by simp only [ev_holds, decide_eq_true_eq] at hk; rw [if_neg (c1)] at hk; subst hk; exact kk _ hl)
    | le => exact lv_if_le hx hb hd hj (fun c1 => by simp only [ev_holds, decide_eq_true_eq] at hk; rw [if_pos c1] at hk; subst hk; exact kk _ hl) (fun c1 => by simp only [ev_holds, decide_eq_true_eq] at hk; rw [if_neg (c1)] at hk; subst hk; exact kk _ hl)
  | if_icmp q o =>
    obtain rfl : len = 3 := by simpa [ev_ilen] using hln
    dsimp only [ev_step] at hs
    obtain ⟨x, y, r, rfl, h⟩ := ev_ii_some hs
    obtain ⟨t, rfl, h⟩ := ev_tg_some h
    obtain ⟨hk, rfl, rfl, rfl⟩ := ev_next_some h
    have hj : (k : Int) + o = (t : Int) := by simpa [ev_ckJ] using hm
    refine ⟨rfl, ?_⟩
    cases q with
    | eq => exact lv_icmp_eq hx hb hd hj (fun c1 => by simp only [ev_holds, decide_eq_true_eq] at hk; rw [if_pos c1] at hk; subst hk; exact kk _ hl) (fun c1 => by simp only [ev_holds, decide_eq_true_eq] at hk; rw [if_neg (c1)] at hk; subst hk; exact kk _ hl)
    | ne => exact lv_icmp_ne hx hb hd hj (fun c1 => by simp only [ev_holds, decide_eq_true_eq] at hk; rw [if_pos c1] at hk; subst hk; exact kk _ hl) (fun c1 => by simp only [ev_holds, decide_eq_true_eq] at hk; rw [if_neg (not_not_intro c1)] at hk; subst hk; exact kk _ hl)
    | lt => exact lv_icmp_lt hx hb hd hj (fun c1 => by simp only [ev_holds, decide_eq_true_eq] at hk; rw [if_pos c1] at hk; subst hk; exact kk _ hl) (fun c1 => by simp only [ev_holds, decide_eq_true_eq] at hk; rw [if_neg (c1)] at hk; subst hk; exact kk _ hl)
    | ge => exact lv_icmp_ge hx hb hd hj (fun c1 => by simp only [ev_holds, decide_eq_true_eq] at hk; rw [if_pos c1] at hk; subst hk; exact kk _ hl) (fun c1 => by simp only [ev_holds, decide_eq_true_eq] at hk; rw [if_neg (c1)] at hk; subst hk; exact kk _ hl)
    | gt => exact lv_icmp_gt hx hb hd hj (fun c1 => by simp only [ev_holds, decide_eq_true_eq] at hk; rw [if_pos c1] at hk; subst hk; exact kk _ hl) (fun c1 => by simp only [ev_holds, decide_eq_true_eq] at hk; rw [if_neg (c1)] at hk; subst hk; exact kk _ hl)
    | le => exact lv_icmp_le hx hb hd hj (fun c1 => by simp only [ev_holds, decide_eq_true_eq] at hk; rw [if_pos c1] at hk; subst hk; exact kk _ hl) (fun c1 => by simp only [ev_holds, decide_eq_true_eq] at hk; rw [if_neg (c1)] at hk; subst hk; exact kk _ hl)
  | goto o =>
    obtain rfl : len = 3 := by simpa [ev_ilen] using hln
    dsimp only [ev_step] at hs
    obtain ⟨t, rfl, h⟩ := ev_tg_some hs
    obtain ⟨rfl, rfl, rfl, rfl⟩ := ev_next_some h
    have hj : (k : Int) + o = (k' : Int) := by simpa [ev_ckJ] using hm
    exact ⟨rfl, lv_goto hx hb hd hj (kk _ hl)⟩
  | ifnull o =>
    obtain rfl : len = 3 := by simpa [ev_ilen] using hln
    dsimp only [ev_step] at hs
    obtain ⟨x, r, rfl, h⟩ := ev_q_some hs
    obtain ⟨t, rfl, h⟩ := ev_tg_some h
    have hj : (k : Int) + o = (t : Int) := by simpa [ev_ckJ] using hm
    cases x with
    | none =>
      obtain ⟨rfl, rfl, rfl, rfl⟩ := ev_next_some h
      exact ⟨rfl, lv_ifnullN hx hb hd hj (kk _ hl)⟩
    | some z =>
      dsimp only at h
      split at h
      · rename_i hz
        obtain ⟨rfl, rfl, rfl, rfl⟩ := ev_next_some h
        obtain ⟨a, ha⟩ := hV.2.2.1 z hz.1 hz.2
        refine ⟨rfl, ?_⟩
        rw [List.map_cons]
        show W p l en R s mid args below meth c H locs cells slots Q (F0 mid k lsR (V z :: _))
        rw [ha]
        exact lv_ifnull hx hb hd (kk _ hl)
      · cases h
  | ifnonnull o =>
    obtain rfl : len = 3 := by simpa [ev_ilen] using hln
    dsimp only [ev_step] at hs
    obtain ⟨x, r, rfl, h⟩ := ev_q_some hs
    obtain ⟨t, rfl, h⟩ := ev_tg_some h
    have hj : (k : Int) + o = (t : Int) := by simpa [ev_ckJ] using hm
    cases x with
    | none =>
      obtain ⟨rfl, rfl, rfl, rfl⟩ := ev_next_some h
      exact ⟨rfl, lv_ifnonnullN hx hb hd (kk _ hl)⟩
    | some z =>
      dsimp only at h
      split at h
      · rename_i hz
        obtain ⟨rfl, rfl, rfl, rfl⟩ := ev_next_some h
        obtain ⟨a, ha⟩ := hV.2.2.1 z hz.1 hz.2
        refine ⟨rfl, ?_⟩
        rw [List.map_cons]
        show W p l en R s mid args below meth c H locs cells slots Q (F0 mid k lsR (V z :: _))
        rw [ha]
        exact lv_ifnonnull hx hb hd hj (kk _ hl)
      · cases h
  | if_acmp q o =>
    obtain rfl : len = 3 := by simpa [ev_ilen] using hln
    dsimp only [ev_step] at hs
    obtain ⟨y, r0, rfl, h⟩ := ev_q_some hs
    obtain ⟨x, r, rfl, h2⟩ := ev_q_some h
    obtain ⟨t, rfl, h3⟩ := ev_tg_some h2
    clear h hs h2
    have hj : (k : Int) + o = (t : Int) := by simpa [ev_ckJ] using hm
    split at h3
    · rename_i hxy
      simp only [Bool.and_eq_true] at hxy
      have key : ∀ z : Option Nat, (z.all fun z => decide (400 ≤ z) && decide (z < 454)) = true → ∃ w : Option Nat, ev_av V (va_rf z) = va_rf w ∧ (z = none ↔ w = none) ∧ (∀ u, z = some u → 400 ≤ u ∧ u < 454) := by
        intro z hz
        cases z with
        | none => exact ⟨none, rfl, by simp, by simp⟩
        | some u =>
          simp only [Option.all_some, Bool.and_eq_true, decide_eq_true_eq] at hz
          obtain ⟨a, ha⟩ := hV.2.2.1 u hz.1 hz.2
          exact ⟨some a, ha, by simp, fun u' hu => by cases hu; exact hz⟩
      obtain ⟨x', ex, nx, bx⟩ := key x hxy.1
      obtain ⟨y', ey, ny, by'⟩ := key y hxy.2
      have heq : x = y ↔ x' = y' := by
        constructor
        · intro q
          subst q
          have : va_rf x' = va_rf y' := ex.symm.trans ey
          cases x' <;> cases y' <;> simp_all [va_rf]
        · intro q
          subst q
          cases x with
          | none => exact (ny.mpr (nx.mp rfl)).symm
          | some u =>
            cases y with
            | none => exact absurd (nx.mpr (ny.mp rfl)) (by simp)
            | some w =>
              have h1 := bx u rfl
              have h2 := by' w rfl
              rw [hV.2.2.2 u w h1.1 h1.2 h2.1 h2.2 (ex.trans ey.symm)]
      cases q with
      | eq =>
        obtain ⟨hk, rfl, rfl, rfl⟩ := ev_next_some h3
        refine ⟨rfl, ?_⟩
        rw [List.map_cons, List.map_cons, ex, ey]
        exact lv_acmp_eq hx hb hd hj (fun c1 => by rw [if_pos (heq.mpr c1)] at hk; subst hk; exact kk _ hl) (fun c1 => by rw [if_neg (fun q => c1 (heq.mp q))] at hk; subst hk; exact kk _ hl)
      | ne =>
        obtain ⟨hk, rfl, rfl, rfl⟩ := ev_next_some h3
        refine ⟨rfl, ?_⟩
        rw [List.map_cons, List.map_cons, ex, ey]
        exact lv_acmp_ne hx hb hd hj (fun c1 => by rw [if_neg (fun q => c1 (heq.mp q))] at hk; subst hk; exact kk _ hl) (fun c1 => by rw [if_pos (heq.mpr c1)] at hk; subst hk; exact kk _ hl)
    · cases h3
  | tableswitch d lo hi offs =>
    dsimp only [ev_step] at hs
    obtain ⟨x, r, rfl, h⟩ := ev_i_some hs
    obtain ⟨t, h1, h2⟩ := Option.bind_eq_some_iff.mp h
    obtain ⟨rfl, rfl, rfl, rfl⟩ := ev_next_some h2
    refine ⟨rfl, ?_⟩
    rcases ev_sw_some h1 with ⟨c1, c2⟩ | ⟨c1, c2, o, c3, c4⟩
    · exact lv_tableOut hx hb hd c1 c2 (kk _ hl)
    · exact lv_tableIn hx hb hd c1 c2 c3 c4 (kk _ hl)
  | _ => cases hi
end EVS

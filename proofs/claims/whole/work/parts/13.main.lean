/-! THE THEOREM: a run of the pure machine is a run of the real one -/
def ev_Pc (V : Nat → Value) (B : Nat) (dC : Nat → ClassId) (dI : Nat → Nat → Nat) (dA : Nat → ClassId) (σ : ev_M) (as : List Value) : Array Value → State → Prop := fun v U =>
  v = (as.map (ev_av V)).toArray ∧ ev_TB U ∧ va_K (dC, dI) vwCl (ev_tys dA) U ∧ ev_Old V B U U.heap ∧ ev_OA V B σ U U.heap ∧ ev_New V B dC dI dA σ U.heap
def ev_Qc (V : Nat → Value) (B : Nat) (dC : Nat → ClassId) (dI : Nat → Nat → Nat) (dA : Nat → ClassId) (v : Option Value) (σ' : ev_M) : Array Value → State → Outcome → State → Prop := fun _ st o t =>
  o = .returned (v.map (ev_av V)) ∧ ev_New V B dC dI dA σ' t.heap ∧ va_F (ev_B B) st t
section EVM
variable {p : Program} {l : Launch} {en : Env} {R : Room} {s : State} {mid : MethodId} {args : Array Value} {below : List Frame} {meth : Method} {c : Code} {H : Heap} {locs : List Loc} {Q : State → Prop}
variable {B : Nat} {V : Nat → Value} {dC : Nat → ClassId} {dI : Nat → Nat → Nat} {dA : Nat → ClassId}
theorem ev_blind (σ : ev_M) (as : List Value) : FrameBlind (ev_Pc V B dC dI dA σ as) := by
  intro a U g mk h
  obtain ⟨h1, h2, h3, h4, h5, h6⟩ := h
  have hW : U.WarmedH (U.calling g mk a).vm := State.WarmedH.refl U
  exact ⟨h1, h2.warm hW, va_K.moved (u := U) (U := U.calling g mk a) (Vm.Alike.refl U.vm) h3, h4.moved hW (fun _ _ _ => rfl), h5.moved hW (fun _ _ _ => rfl), h6⟩
theorem ev_pre {σ : ev_M} {as : List Value} (hTB : ev_TB s) (hK : va_K (dC, dI) vwCl (ev_tys dA) s) (hO : ev_Old V B s s.heap) (hA : ev_OA V B σ s s.heap) (hN : ev_New V B dC dI dA σ H) (hS : va_S (ev_B B) s.heap H locs) :
    ∀ U : State, U.heap = H → s.WarmedH U.vm → ev_Pc V B dC dI dA σ as (as.map (ev_av V)).toArray U := by
  intro U hU hW
  refine ⟨rfl, hTB.warm hW, va_K.moved hW.alike hK, ?_, ?_, by rw [hU]; exact hN⟩
  · rw [hU]
    exact hO.moved hW hS.2.1
  · rw [hU]
    exact hA.moved hW hS.2.1
theorem ev_after {k cells slots mc ms : Nat} {lsR : Array Slot} {st0 restR : List Value} {a : Array Value} {v : Option Value} {σ' : ev_M} (hr : va_Run p l en R s mid args below meth c H locs cells slots mc ms (F0 mid k lsR st0) restR (ev_Qc V B dC dI dA v σ' a) (ev_B B)) (hS : va_S (ev_B B) s.heap H locs)
    (kk : ∀ (H' : Heap) (locs' : List Loc), ev_New V B dC dI dA σ' H' → va_S (ev_B B) s.heap H' locs' → W p l en R s mid args below meth c H' locs' (cells + mc) (slots + ms) Q (F0 mid (k + 3) lsR (v.toList.map (ev_av V) ++ restR))) :
    W p l en R s mid args below meth c H locs cells slots Q (F0 mid k lsR st0) := by
  intro T hT X
  obtain ⟨v2, st₀, t, T', L, h0, X', hL, e1, e2, ⟨hv, hN, hz, hk⟩, st⟩ := hr T hT X
  have hv : v2 = v.map (ev_av V) := by cases hv; rfl
  subst hv
  rw [h0] at hz hk
  obtain ⟨t2, a1, b1⟩ := kk T'.heap (locs ++ L) (by rw [e1]; exact hN) ⟨Nat.le_trans hS.1 (by rw [e1]; exact hz), fun q h1 h2 => by rw [e1, hk q (Nat.lt_of_lt_of_le h1 hS.1) h2]; exact hS.2.1 q h1 h2, fun q hq => by
      rcases List.mem_append.mp hq with h | h
      · exact hS.2.2 q h
      · exact hL q h⟩ T' rfl X'
  refine ⟨t2, st t2 ?_, b1⟩
  have e3 : (v.map (ev_av V)).toList = v.toList.map (ev_av V) := by cases v <;> rfl
  rw [e3]
  exact a1
theorem ev_char {x : Int32} (h0 : 0 ≤ x) (h1 : x ≤ 65535) : x.toUInt32.toUInt16.toUInt32.toInt32 = x := by
  have h2 : (0 : Int) ≤ x.toInt := by simpa using Int32.le_iff_toInt_le.mp h0
  have h3 : x.toInt ≤ 65535 := by
    have := Int32.le_iff_toInt_le.mp h1
    simpa using this
  have h4 : x.toInt = x.toBitVec.toInt := rfl
  rw [h4, BitVec.toInt_eq_toNat_cond] at h2 h3
  have h5 : x.toBitVec.toNat < 65536 := by
    have := x.toBitVec.isLt
    split at h2 <;> omega
  apply Int32.toInt_inj.mp
  rw [u16_toInt]
  have h6 : x.toUInt32.toUInt16.toNat = x.toBitVec.toNat % 65536 := by simp; rfl
  rw [h6, h4, BitVec.toInt_eq_toNat_cond]
  split <;> omega
theorem ev_fit_nar {r : Nat} {x : Int32} {t : FieldType} (hr : ev_rtok r (some t) = true) (h : ev_fit r x = true) : narrow t (.int x) = .int x := by
  unfold ev_rtok at hr
  split at hr
  · rename_i heq
    cases heq
  · rename_i heq
    cases heq
    rfl
  · rename_i heq
    cases heq
    simp only [ev_fit, Bool.or_eq_true, decide_eq_true_eq] at h
    rcases h with rfl | rfl
    · decide
    · decide
  · rename_i heq
    cases heq
    simp only [ev_fit, Bool.and_eq_true, decide_eq_true_eq] at h
    show Value.int x.toUInt32.toUInt16.toUInt32.toInt32 = .int x
    rw [ev_char h.1 h.2]
  · rename_i heq
    cases heq
    cases h
  · cases h
  · rename_i heq
    cases heq
    simp only [ev_fit, decide_eq_true_eq] at h
    subst h
    rfl
  · cases hr
/-- the words of a method that is called -/
theorem ev_mok {q : MethodName × ByteArray × Option FieldType} {t : Nat × Nat × Nat × Nat} {pl : List Nat} (h : ev_ckM q t pl = true) : ev_w (pl.getD 0 0) (.code q.1 q.2.1 t.1 q.2.2) = true ∧ ev_w (pl.getD 1 0) (.initialized q.1.cls) = true ∧ t.1 ≤ 20 ∧ plainName q.1.cls = true ∧ ev_rtok t.2.2.1 q.2.2 = true ∧
    (q.1.cls ≠ "java/lang/invoke/MethodHandle" ∧ q.1.cls ≠ "java/lang/invoke/VarHandle") ∧ ∀ sig, parseMethodDescriptor q.1.desc = some sig → t.2.1 = sig.parameters.length := by
  simp only [ev_ckM, Bool.and_eq_true, decide_eq_true_eq] at h
  obtain ⟨⟨⟨⟨⟨⟨⟨h1, h2⟩, h3⟩, h4⟩, h5⟩, h6⟩, h7⟩, h8⟩ := h
  refine ⟨h1, h2, h3, h4, h5, ⟨h6, h7⟩, fun sig hs => ?_⟩
  rw [hs] at h8
  exact (Option.some.inj h8).symm
abbrev ev_rm (d mc ms : Nat) : Room := { frames := d + 1, cells := mc, slots := ms, locals := 39 * (d + 1) }
/-- what one fuel says of a method's body, from any place in it -/
def ev_body (l : Launch) (V : Nat → Value) (B : Nat) (dC : Nat → ClassId) (dI : Nat → Nat → Nat) (dA : Nat → ClassId) (n : Nat) : Prop :=
  ∀ (d m k : Nat) (ls : List (Option Value)) (st : List Value) (σ : ev_M) (v : Option Value) (σ' : ev_M), ev_run n d m k ls st σ = some (v, σ') →
  ∀ (p : Program) (en : Env) (R : Room) (s : State) (mid : MethodId) (args : Array Value) (below : List Frame) (meth : Method) (c : Code) (H : Heap) (locs : List Loc) (Q : State → Prop) (lsR : Array Slot) (t0 : Nat) (q : MethodName × ByteArray × Option FieldType),
    ev_nm[m]? = some q → p.tables.exec = Jvm.exec → c.code = q.2.1 → c.maxLocals = (ev_mt m).1 → s.vm.findClass q.1.cls = some mid.cls → meth.name = q.1.name → ev_TB s → va_K (dC, dI) vwCl (ev_tys dA) s → ev_Old V B s s.heap →
    d + 1 ≤ R.frames → 39 * (d + 1) ≤ R.locals → t0 ≤ σ.1 → σ'.1 - t0 ≤ R.cells → ev_sl σ'.1 - ev_sl t0 ≤ R.slots → ev_New V B dC dI dA σ H → ev_OA V B σ s s.heap → va_S (ev_B B) s.heap H locs → ev_ls V (ev_mt m).1 ls lsR →
    (∀ (k2 : Nat) (lsR' : Array Slot) (H' : Heap) (locs' : List Loc), decode q.2.1 k2 = .ok (ev_retI v, 1) → ev_vok m v → ev_New V B dC dI dA σ' H' → va_S (ev_B B) s.heap H' locs' → W p l en R s mid args below meth c H' locs' (σ'.1 - t0) (ev_sl σ'.1 - ev_sl t0) Q (F0 mid k2 lsR' (v.toList.map (ev_av V)))) →
    W p l en R s mid args below meth c H locs (σ.1 - t0) (ev_sl σ.1 - ev_sl t0) Q (F0 mid k lsR (st.map (ev_av V)))
theorem ev_nd_all {as : List Value} (h : as.all ev_nd = true) : ∀ w ∈ as, ∀ x, w ≠ .double x := by
  intro w hw x hx
  subst hx
  have := List.all_eq_true.mp h _ hw
  cases this
theorem ev_entry_ls (hV : ev_V V B) {m : Nat} {as : List Value} (hlen : (ev_ent as).length ≤ (ev_mt m).1) (hnd : as.all ev_nd = true) :
    ev_ls V (ev_mt m).1 (ev_entry m as) ((lg_sl (as.map (ev_av V)) ++ List.replicate ((ev_mt m).1 - (lg_sl (as.map (ev_av V))).length) Slot.unset).toArray) := by
  have hd := ev_nd_all hnd
  have e1 := ev_ent_len V hV as hd
  have h1 := lv_entry (as.map (ev_av V)) (n := (ev_mt m).1) (by omega)
  refine ⟨by simp [ev_entry]; omega, h1.1, h1.2.1, ?_⟩
  rintro ⟨j, w⟩ hq
  obtain ⟨v, hj, rfl⟩ := ev_pairs_mem.mp hq
  unfold ev_entry at hj
  by_cases hlt : j < (ev_ent as).length
  · rw [List.getElem?_append_left hlt] at hj
    have h2 := ev_ent_args V hV as 0 j v hd hj
    rw [Nat.zero_add] at h2
    exact h1.2.2 _ h2
  · rw [List.getElem?_append_right (by omega)] at hj
    rw [List.getElem?_replicate] at hj
    split at hj <;> cases hj
/-- a method's contract, out of one run of it -/
theorem ev_met (hV : ev_V V B) {n : Nat} (hB : ev_body l V B dC dI dA n) {d m : Nat} {as : List Value} {σ : ev_M} {w : Option Value × ev_M} (hr : ev_run n d m 0 (ev_entry m as) [] σ = some w) {q : MethodName × ByteArray × Option FieldType} (hq : ev_nm[m]? = some q) {pl : List Nat} (hm : ev_ckM q (ev_mt m) pl = true)
    (hlen : (ev_ent as).length ≤ (ev_mt m).1) (hnd : as.all ev_nd = true) :
    Met l q.1 [Cond.code q.1 q.2.1 (ev_mt m).1 q.2.2] (ev_rm d (w.2.1 - σ.1) (ev_sl w.2.1 - ev_sl σ.1)) (ev_Pc V B dC dI dA σ as) (ev_Qc V B dC dI dA w.1 w.2) (w.2.1 - σ.1) (ev_sl w.2.1 - ev_sl σ.1) (ev_B B) := by
  obtain ⟨-, -, -, hpn, hrt, -, -⟩ := ev_mok hm
  refine Met.ofW (cc := q.2.1) (maxL := (ev_mt m).1) (ret := q.2.2) hpn rfl ?_
  intro p e s mid args below meth c s₁ Bd hml hv
  obtain ⟨rfl, hTB, hK, hO, hOA, hN⟩ := hv
  have hx := Bd.exec
  have hb := Bd.bytes
  have hret := Bd.returns
  have hlocks := Bd.notSynchronized
  have hown : s.vm.findClass q.1.cls = some mid.cls := findClass_of_methodNamed Bd.named
  have hnm : meth.name = q.1.name := (name_of_methodNamed Bd.named Bd.method).1
  rw [lg_entry_eq]
  obtain ⟨v, σ'⟩ := w
  have key := hB d m 0 (ev_entry m as) [] σ v σ' hr p e (ev_rm d (σ'.1 - σ.1) (ev_sl σ'.1 - ev_sl σ.1)) s mid (as.map (ev_av V)).toArray below meth c s.heap [] (MQ below (ev_Qc V B dC dI dA v σ') (as.map (ev_av V)).toArray s (σ'.1 - σ.1) (ev_sl σ'.1 - ev_sl σ.1) (ev_B B)) _ σ.1 q hq hx hb hml hown hnm hTB hK hO (Nat.le_refl _) (Nat.le_refl _) (Nat.le_refl _) (Nat.le_refl _) (Nat.le_refl _) hN hOA va_S.rf (ev_entry_ls hV hlen hnd) ?_
  · rw [Nat.sub_self, Nat.sub_self] at key
    exact key
  · intro k2 lsR' H' locs' hd hvo hN' hS'
    have hQ : ∀ t : State, t.heap = H' → s.WarmedH t.vm → ev_Qc V B dC dI dA v σ' (as.map (ev_av V)).toArray s (.returned (v.map (ev_av V))) t := fun t ht _ => ⟨rfl, by rw [ht]; exact hN', hS'.F ht⟩
    cases v with
    | none =>
      have hr0 : meth.sig.returnType = none := by
        rw [hret]
        have hvo : (ev_mt m).2.2.1 = 0 := hvo
        rw [hvo] at hrt
        unfold ev_rtok at hrt
        split at hrt <;> simp_all
      exact W.vret hx hb hr0 hQ hS'.2.2 hd hlocks
    | some v =>
      cases v with
      | int x =>
        have hvo : ev_fit (ev_mt m).2.2.1 x = true := hvo
        cases ht : q.2.2 with
        | none =>
          exfalso
          rw [ht] at hrt
          generalize (ev_mt m).2.2.1 = r at hrt hvo
          unfold ev_rtok at hrt
          split at hrt
          · cases hvo
          all_goals first | (rename_i heq; cases heq; done) | cases hrt
        | some t =>
          rw [ht] at hrt hret
          exact W.zret hx hb hret (ev_fit_nar hrt hvo) hQ hS'.2.2 hd hlocks
      | long x =>
        have hvo : (ev_mt m).2.2.1 = 5 := hvo
        rw [hvo] at hrt
        have h5 : q.2.2 = some .long := by
          unfold ev_rtok at hrt
          split at hrt <;> simp_all
        rw [h5] at hret
        exact W.lret hx hb hret hQ hS'.2.2 hd hlocks
      | null =>
        have hvo : (ev_mt m).2.2.1 = 4 := hvo
        rw [hvo] at hrt
        obtain ⟨z, h5⟩ : ∃ z, q.2.2 = some (.object z) := by
          unfold ev_rtok at hrt
          split at hrt <;> simp_all
        rw [h5] at hret
        exact W.aret (v := .null) hx hb hret (Or.inl ⟨z, rfl⟩) (Or.inl rfl) hQ hS'.2.2 hd hlocks
      | ref x =>
        have hvo : (ev_mt m).2.2.1 = 4 := hvo
        rw [hvo] at hrt
        obtain ⟨z, h5⟩ : ∃ z, q.2.2 = some (.object z) := by
          unfold ev_rtok at hrt
          split at hrt <;> simp_all
        rw [h5] at hret
        exact W.aret (v := V x) hx hb hret (Or.inl ⟨z, rfl⟩) (hV.1 x) hQ hS'.2.2 hd hlocks
      | float x => cases hvo
      | double x => cases hvo
      | retAddr x => cases hvo
theorem ev_recv_ok (hV : ev_V V B) (hK : va_K (dC, dI) vwCl (ev_tys dA) s) (hO : ev_Old V B s s.heap) {σ : ev_M} (hN : ev_New V B dC dI dA σ H) (hS : va_S (ev_B B) s.heap H locs) {x mc : Nat} (h : ev_recv σ x mc = true) {C : String}
    (hC : (if mc = 99 then decide (C = "java/lang/String") else decide ((vwCl[mc]?).map (fun r => r.1) = some C)) = true) : ∃ a, V x = .ref a ∧ ∃ cellB : Cell, H[a]? = some cellB ∧ cellB.vm.isStatics = false ∧ s.vm.findClass C = some cellB.cls := by
  unfold ev_recv at h
  split at h
  · simp only [Bool.and_eq_true, decide_eq_true_eq] at h
    rw [if_pos h.2] at hC
    obtain ⟨a, e1, e2⟩ := hO.2.2.1 x h.1
    obtain ⟨cell, g1, g2, g3, -⟩ := e2.kept hS.2.1
    exact ⟨a, e1, cell, g1, g2, by rw [of_decide_eq_true hC]; exact g3⟩
  · rename_i hx0
    simp only [Bool.and_eq_true, decide_eq_true_eq] at h
    obtain ⟨hlt, h⟩ := h
    split at h
    · rename_i q hq
      have hqm := of_decide_eq_true h
      have hc := hN.2.2.1 x (by omega) hlt
      unfold ev_cell at hc
      rw [hq] at hc
      obtain ⟨r, hr, hlen, cell, q1, q2, q3, q4⟩ := hc
      have hmc : mc ≠ 99 := by
        have : q.1 < 10 := (List.getElem?_eq_some_iff.mp hr).1
        omega
      rw [if_neg hmc, ← hqm, hr] at hC
      have hC := of_decide_eq_true hC
      simp only [Option.map_some, Option.some.injEq] at hC
      refine ⟨_, hV.2.1 x (by omega), cell, q1, by rw [q3]; rfl, ?_⟩
      rw [← hC, q2]
      exact (hK.1 q.1 r hr).2.1
    · cases h
set_option maxHeartbeats 4000000 in
theorem ev_sound (hok : ∀ (m k : Nat) (e : Instr × Nat × Value), ev_at m k = some e → ∃ (q : MethodName × ByteArray × Option FieldType) (pl : List Nat), ev_nm[m]? = some q ∧ ev_ck q.1 q.2.1 k e pl = true)
    (hmok : ∀ (m : Nat) (q : MethodName × ByteArray × Option FieldType), ev_nm[m]? = some q → m + 1 < ev_nm.length → ∃ pl, ev_ckM q (ev_mt m) pl = true) (l : Launch) (hV : ev_V V B) : ∀ n : Nat, ev_body l V B dC dI dA n := by
  intro n
  induction n with
  | zero =>
    intro d m k ls st σ v σ' h
    simp [ev_run] at h
  | succ n ih =>
    intro d m k ls st σ v σ' h p en R s mid args below meth c H locs Q lsR t0 q hq hx hb hml hown hnm hTB hK hO hfr hlo ht0 hc hsl hN hA hS hl hret
    simp only [ev_run] at h
    split at h
    · cases h
    · rename_i e he
      obtain ⟨q', pl, hq', hck⟩ := hok m k e he
      cases hq.symm.trans hq'
      obtain ⟨i, len, lk⟩ := e
      split at h
      · cases h
      · rename_i z hz
        obtain ⟨k1, ls1, st1, σ1⟩ := z
        have hle := ev_run_le n d m _ _ _ _ v σ' h
        have hle0 := ev_step_le hz
        dsimp only at h hle
        have hm1 := ev_sl_mono hle.1
        exact ev_stepN hV hx hb hml hown hnm hTB hK hO (by omega) (by omega) hck hz hl hN hA hS ht0 (by have := hle.1; omega) (by omega) fun H' locs' lsR' hl' hN' hA' hS' =>
          ih d m k1 ls1 st1 σ1 v σ' h p en R s mid args below meth c H' locs' Q lsR' t0 q hq hx hb hml hown hnm hTB hK hO hfr hlo (by have := hle0.1; omega) hc hsl hN' hA' hS' hl' hret
      · rename_i z hz
        obtain ⟨v1, σ1⟩ := z
        cases h
        obtain ⟨e1, e2, rfl, rfl⟩ := ev_step_ret hz
        simp only [ev_ck, Bool.and_eq_true, decide_eq_true_eq, Bool.or_eq_true] at hck
        obtain ⟨⟨hd, hln⟩, -⟩ := hck
        dsimp only at e1
        subst e1
        have hlen : len = 1 := by
          have h0 : ev_ilen (ev_retI v) = 1 := by
            unfold ev_retI
            split <;> rfl
          rw [h0] at hln
          rcases hln with h1 | h1
          · cases h1
          · exact h1
        subst hlen
        exact hret k lsR H locs hd e2 hN hS
      · rename_i z hz
        obtain ⟨m1, as, rest⟩ := z
        cases d with
        | zero => cases h
        | succ d =>
          dsimp only at h
          split at h
          · cases h
          · rename_i w hw
            have hle1 := ev_run_le n d m1 0 _ [] σ w.1 w.2 hw
            have hle2 := ev_run_le n (d + 1) m _ _ _ _ v σ' h
            have hs1 := ev_sl_mono hle1.1
            have hs2 := ev_sl_mono hle2.1
            have hs0 := ev_sl_mono ht0
            have g1 := hle1.1
            have g2 := hle2.1
            have hcont : ∀ (H' : Heap) (locs' : List Loc), ev_New V B dC dI dA w.2 H' → va_S (ev_B B) s.heap H' locs' → len = 3 → W p l en R s mid args below meth c H' locs' (σ.1 - t0 + (w.2.1 - σ.1)) (ev_sl σ.1 - ev_sl t0 + (ev_sl w.2.1 - ev_sl σ.1)) Q (F0 mid (k + 3) lsR (w.1.toList.map (ev_av V) ++ rest.map (ev_av V))) := by
              intro H' locs' hN' hS' hl3
              subst hl3
              have h9 := ih (d + 1) m (k + 3) ls (w.1.toList ++ rest) w.2 v σ' h p en R s mid args below meth c H' locs' Q lsR t0 q hq hx hb hml hown hnm hTB hK hO hfr hlo (by omega) hc hsl hN' (hA.le hle1) hS' hl hret
              rw [List.map_append] at h9
              rw [show w.2.1 - t0 = σ.1 - t0 + (w.2.1 - σ.1) by omega, show ev_sl w.2.1 - ev_sl t0 = ev_sl σ.1 - ev_sl t0 + (ev_sl w.2.1 - ev_sl σ.1) by omega] at h9
              exact h9
            simp only [ev_ck, Bool.and_eq_true, decide_eq_true_eq, Bool.or_eq_true] at hck
            obtain ⟨⟨hd, hln⟩, hm⟩ := hck
            have hroom : σ.1 - t0 + (w.2.1 - σ.1) ≤ R.cells ∧ ev_sl σ.1 - ev_sl t0 + (ev_sl w.2.1 - ev_sl σ.1) ≤ R.slots := by omega
            -- what all three calls share
            have share : ∀ (m0 : Nat) (q1 : MethodName × ByteArray × Option FieldType), m1 = m0 % 100000 → ev_nm[m0 % 100000]? = some q1 → m0 % 100000 + 1 < ev_nm.length → (ev_ent as).length ≤ (ev_mt m1).1 → as.all ev_nd = true →
                Met l q1.1 [Cond.code q1.1 q1.2.1 (ev_mt m1).1 q1.2.2] (ev_rm d (w.2.1 - σ.1) (ev_sl w.2.1 - ev_sl σ.1)) (ev_Pc V B dC dI dA σ as) (ev_Qc V B dC dI dA w.1 w.2) (w.2.1 - σ.1) (ev_sl w.2.1 - ev_sl σ.1) (ev_B B) ∧
                (d + 1 + 1 ≤ R.frames ∧ 8 + ((ev_mt m1).1 + 11) + 39 * (d + 1) ≤ R.locals) ∧ (∀ x ∈ [Cond.code q1.1 q1.2.1 (ev_mt m1).1 q1.2.2], ∀ (a' : Array Value) (U : State), s.WarmedH U.vm → x.before a' U = true) ∧
                (Cond.code q1.1 q1.2.1 (ev_mt m1).1 q1.2.2).before args s = true ∧ (Cond.initialized q1.1.cls).before args s = true ∧ (q1.1.cls ≠ "java/lang/invoke/MethodHandle" ∧ q1.1.cls ≠ "java/lang/invoke/VarHandle") ∧ (∀ sig, parseMethodDescriptor q1.1.desc = some sig → (ev_mt m1).2.1 = sig.parameters.length) := by
              intro m0 q1 e1 hq1 hlt hle hnd
              subst e1
              obtain ⟨plm, hmk⟩ := hmok _ _ hq1 hlt
              obtain ⟨c1, c2, c3, c4, c5, c6, c7⟩ := ev_mok hmk
              refine ⟨ev_met hV ih hw hq1 hmk hle hnd, ⟨by omega, by omega⟩, fun x hx1 a' U hW => ?_, hTB.use c1 args, hTB.use c2 args, c6, c7⟩
              rw [List.mem_singleton.mp hx1]
              exact hTB.warm hW _ (ev_w_mem c1).1 (ev_w_mem c1).2 a'
            have hpre := ev_pre (as := as) hTB hK hO hA hN hS
            cases i with
            | invokevirtual z =>
              have hl3 : len = 3 := by simpa [ev_ilen] using hln
              subst hl3
              dsimp only [ev_step] at hz
              obtain ⟨m0, as', rest', rfl, hz', hst, hlen, hcat, hent, hnd, hvt, -⟩ := ev_call_some hz
              cases hz'
              dsimp only at hm
              unfold ev_ckC at hm
              split at hm
              · rename_i q1 hq1
                simp only [Bool.and_eq_true, decide_eq_true_eq] at hm
                obtain ⟨⟨hlk, ⟨hin, hsel⟩, hcls⟩, hlt⟩ := hm
                obtain ⟨hM, hrm, hws, hcode, hini, hy, hsig⟩ := share m0 q1 rfl hq1 hlt hent hnd
                obtain ⟨x, as2, rfl, hrv⟩ := hvt rfl
                have hlink : (Cond.methodLink q.1.cls z q1.1).before args s = true := by
                  split at hlk
                  · exact hTB.use hlk args
                  · simp at hlk
                obtain ⟨a, ha, hrecv⟩ := ev_recv_ok hV hK hO hN hS hrv (C := q1.1.cls) (by split <;> rename_i hh <;> simp only [hh, if_true, if_false] at hcls <;> exact hcls)
                have hstk : st.map (ev_av V) = (as2.map (ev_av V)).reverse ++ .ref a :: rest.map (ev_av V) := by
                  rw [hst]
                  simp [ev_av_ref, ha]
                rw [hstk]
                have hpre' : ∀ U : State, U.heap = H → s.WarmedH U.vm → ev_Pc V B dC dI dA σ (.ref x :: as2) (Value.ref a :: as2.map (ev_av V)).toArray U := by
                  intro U hU hW
                  have h0 := hpre U hU hW
                  rw [List.map_cons, ev_av_ref, ha] at h0
                  exact h0
                refine ev_after (va_runV (As := as2.map (ev_av V)) (n := (ev_mt (m0 % 100000)).2.1) (Ts := []) ⟨hx, hb, hml, hown, fun _ h0 => by cases h0⟩ hM ⟨⟨rfl, rfl, hrm.1, hrm.2, hws, List.mem_singleton.mpr rfl, hcode, hini, hy, hsig, hlink⟩, hTB.use hin args, hTB.use hsel args⟩ ⟨ev_blind _ _, hrecv, hpre'⟩ rfl ?_ hl.2.1 rfl ?_ hd hroom) hS fun H' locs' hN' hS' => hcont H' locs' hN' hS' rfl
                · simpa using hlen
                · show 2 * 0 + _ ≤ 8
                  rw [ev_cat_map hV]
                  omega
              · cases hm
            | invokestatic z =>
              have hl3 : len = 3 := by simpa [ev_ilen] using hln
              subst hl3
              dsimp only [ev_step] at hz
              split at hz
              · obtain ⟨_, _, _, _, _, _, _, _, _, _, _, _, _, _, _, _, _, _, _, _, _, hz'⟩ := ev_copy_some hz
                cases hz'
              · obtain ⟨m0, as', rest', rfl, hz', hst, hlen, hcat, hent, hnd, -, -⟩ := ev_call_some hz
                cases hz'
                dsimp only at hm
                unfold ev_ckC at hm
                split at hm
                · rename_i q1 hq1
                  simp only [Bool.and_eq_true, decide_eq_true_eq] at hm
                  obtain ⟨⟨hlk, hstt⟩, hlt⟩ := hm
                  obtain ⟨hM, hrm, hws, hcode, hini, hy, hsig⟩ := share m0 q1 rfl hq1 hlt hent hnd
                  have hstk : st.map (ev_av V) = (as.map (ev_av V)).reverse ++ rest.map (ev_av V) := by
                    rw [hst]
                    simp
                  rw [hstk]
                  have hlen' : (as.map (ev_av V)).length = (ev_mt (m0 % 100000)).2.1 := by simpa using hlen
                  have hcat' : 2 * (F0 mid k lsR ((as.map (ev_av V)).reverse ++ rest.map (ev_av V))).monitorRoom + ((rest.map (ev_av V)).map fun v => v.category).sum ≤ 8 := by
                    show 2 * 0 + _ ≤ 8
                    rw [ev_cat_map hV]
                    omega
                  split at hlk
                  · exact ev_after (va_runS (As := as.map (ev_av V)) (n := (ev_mt (m0 % 100000)).2.1) (Ts := []) ⟨hx, hb, hml, hown, fun _ h0 => by cases h0⟩ hM ⟨⟨rfl, rfl, hrm.1, hrm.2, hws, List.mem_singleton.mpr rfl, hcode, hini, hy, hsig, hTB.use hlk args⟩, hTB.use hstt args⟩ ⟨ev_blind _ _, hpre⟩ rfl hlen' hl.2.1 rfl hcat' hd hroom) hS fun H' locs' hN' hS' => hcont H' locs' hN' hS' rfl
                  · simp only [Bool.and_eq_true] at hlk
                    exact ev_after (va_runSN (As := as.map (ev_av V)) (n := (ev_mt (m0 % 100000)).2.1) (Ts := []) ⟨hx, hb, hml, hown, fun _ h0 => by cases h0⟩ hM ⟨⟨⟨rfl, rfl, hrm.1, hrm.2, hws, List.mem_singleton.mpr rfl⟩, hcode, hini, hy, hsig, hTB.use hlk.2 args⟩, hTB.use hstt args, trivial⟩ ⟨ev_blind _ _, hpre⟩ rfl hlen' hl.2.1 rfl hcat' hd hroom) hS fun H' locs' hN' hS' => hcont H' locs' hN' hS' rfl
                · cases hm
            | invokespecial z =>
              have hl3 : len = 3 := by simpa [ev_ilen] using hln
              subst hl3
              dsimp only [ev_step] at hz
              split at hz
              · obtain ⟨_, _, _, hz'⟩ := ev_r_some hz
                split at hz' <;> cases hz'
              · obtain ⟨m0, as', rest', rfl, hz', hst, hlen, hcat, hent, hnd, -, hob⟩ := ev_call_some hz
                cases hz'
                dsimp only at hm
                unfold ev_ckC at hm
                split at hm
                · rename_i q1 hq1
                  simp only [Bool.and_eq_true, decide_eq_true_eq] at hm
                  obtain ⟨⟨hlk, ⟨hin, hname⟩, hnone⟩, hlt⟩ := hm
                  obtain ⟨hM, hrm, hws, hcode, hini, hy, hsig⟩ := share m0 q1 rfl hq1 hlt hent hnd
                  obtain ⟨x, as2, rfl, hx0⟩ := hob rfl rfl
                  have ha := hV.2.1 x hx0
                  have hstk : st.map (ev_av V) = (as2.map (ev_av V)).reverse ++ .ref (B + (x - 1000)) :: rest.map (ev_av V) := by
                    rw [hst]
                    simp [ev_av_ref, ha]
                  rw [hstk]
                  have hpre' : ∀ U : State, U.heap = H → s.WarmedH U.vm → ev_Pc V B dC dI dA σ (.ref x :: as2) (Value.ref (B + (x - 1000)) :: as2.map (ev_av V)).toArray U := by
                    intro U hU hW
                    have h0 := hpre U hU hW
                    rw [List.map_cons, ev_av_ref, ha] at h0
                    exact h0
                  have hlen' : (as2.map (ev_av V)).length = (ev_mt (m0 % 100000)).2.1 := by simpa using hlen
                  have hcat' : 2 * (F0 mid k lsR ((as2.map (ev_av V)).reverse ++ .ref (B + (x - 1000)) :: rest.map (ev_av V))).monitorRoom + ((rest.map (ev_av V)).map fun v => v.category).sum ≤ 8 := by
                    show 2 * 0 + _ ≤ 8
                    rw [ev_cat_map hV]
                    omega
                  rw [hnone] at hM hws hcode
                  split at hlk
                  · exact ev_after (va_runI (As := as2.map (ev_av V)) (n := (ev_mt (m0 % 100000)).2.1) (Ts := []) ⟨hx, hb, hml, hown, fun _ h0 => by cases h0⟩ hM ⟨⟨rfl, rfl, hrm.1, hrm.2, hws, List.mem_singleton.mpr rfl, hcode, hini, hy, hsig, hTB.use hlk args⟩, hname, hTB.use hin args⟩ ⟨ev_blind _ _, hpre'⟩ rfl hlen' hl.2.1 rfl hcat' hd hroom) hS fun H' locs' hN' hS' => hcont H' locs' hN' hS' rfl
                  · simp only [Bool.and_eq_true] at hlk
                    exact ev_after (va_runIN (As := as2.map (ev_av V)) (n := (ev_mt (m0 % 100000)).2.1) (Ts := []) ⟨hx, hb, hml, hown, fun _ h0 => by cases h0⟩ hM ⟨⟨⟨rfl, rfl, hrm.1, hrm.2, hws, List.mem_singleton.mpr rfl⟩, hcode, hini, hy, hsig, hTB.use hlk.2 args⟩, hname, hTB.use hin args⟩ ⟨ev_blind _ _, hpre'⟩ rfl hlen' hl.2.1 rfl hcat' hd hroom) hS fun H' locs' hN' hS' => hcont H' locs' hN' hS' rfl
                · cases hm
            | _ =>
              exfalso
              rcases ev_step_call hz with ⟨j, hj⟩ | ⟨j, hj⟩ | ⟨j, hj⟩ <;> cases hj
end EVM

/-! EVERY STEP within a method -/
def ev_le (σ σ' : ev_M) : Prop := σ.1 ≤ σ'.1 ∧ (∀ k, σ'.2.2.1 502 k = σ.2.2.1 502 k) ∧ ∀ k, σ'.2.2.2 502 k = σ.2.2.2 502 k
theorem ev_le.rf (σ : ev_M) : ev_le σ σ := ⟨Nat.le_refl _, fun _ => rfl, fun _ => rfl⟩
theorem ev_le.tr {a b c : ev_M} (h : ev_le a b) (g : ev_le b c) : ev_le a c := ⟨Nat.le_trans h.1 g.1, fun k => (g.2.1 k).trans (h.2.1 k), fun k => (g.2.2 k).trans (h.2.2 k)⟩
theorem ev_OA.le {V : Nat → Value} {B : Nat} {σ σ' : ev_M} {s : State} {H : Heap} (h : ev_le σ σ') (hA : ev_OA V B σ s H) : ev_OA V B σ' s H := hA.same (h.2.1 0) h.2.2
theorem ev_copy_some {σ : ev_M} {st : List Value} {f : ev_M → List Value → Option ev_O} {z : ev_O} (h : ev_copy σ st f = some z) : ∃ (n dp sp : Int32) (a b : Nat) (r : List Value) (na nb : Nat), st = .int n :: .int dp :: .ref b :: .int sp :: .ref a :: r ∧ 1000 ≤ a ∧ 1000 ≤ b ∧ a < σ.1 ∧ b < σ.1 ∧ ev_cat r ≤ 8 ∧ ev_sh a = some (.inr (0, na)) ∧ ev_sh b = some (.inr (0, nb)) ∧
    ¬ sp < 0 ∧ ¬ dp < 0 ∧ ¬ n < 0 ∧ sp.toNatClampNeg + n.toNatClampNeg ≤ na ∧ dp.toNatClampNeg + n.toNatClampNeg ≤ nb ∧ f (σ.1, σ.2.1, σ.2.2.1, fun x j => if x = b then va_cpy (σ.2.2.2 a) (σ.2.2.2 b) sp.toNatClampNeg dp.toNatClampNeg n.toNatClampNeg j else σ.2.2.2 x j) r = some z := by
  unfold ev_copy at h
  split at h
  · rename_i n dp b sp a r
    split at h
    · cases h
    · rename_i h0
      have key : ∀ x t m, ¬ x < 1000 → ev_len σ x = some (t, m) → x < σ.1 ∧ ev_sh x = some (.inr (t, m)) := by
        intro x t m hx hl
        unfold ev_len at hl
        rw [if_neg hx] at hl
        split at hl
        · rename_i hlt
          split at hl
          · rename_i q hq
            cases hl
            exact ⟨hlt, hq⟩
          · cases hl
        · cases hl
      split at h
      · rename_i na nb h1 h2
        split at h
        · cases h
        · rename_i h3
          obtain ⟨g1, g2⟩ := key a 0 na (fun q => h0 (Or.inl q)) h1
          obtain ⟨g3, g4⟩ := key b 0 nb (fun q => h0 (Or.inr (Or.inl q))) h2
          refine ⟨n, dp, sp, a, b, r, na, nb, rfl, Nat.not_lt.mp fun q => h0 (Or.inl q), Nat.not_lt.mp fun q => h0 (Or.inr (Or.inl q)), g1, g3, Nat.not_lt.mp fun q => h0 (Or.inr (Or.inr q)), g2, g4, fun q => h3 (Or.inl q), fun q => h3 (Or.inr (Or.inl q)), fun q => h3 (Or.inr (Or.inr (Or.inl q))), ?_, ?_, h⟩
          · exact Nat.not_lt.mp fun q => h3 (Or.inr (Or.inr (Or.inr (Or.inl q))))
          · exact Nat.not_lt.mp fun q => h3 (Or.inr (Or.inr (Or.inr (Or.inr q))))
      · cases h
  · cases h
theorem ev_call_some {σ : ev_M} {lk : Value} {st : List Value} {obj virt : Bool} {z : ev_O} (h : ev_call σ lk st obj virt = some z) : ∃ (m0 : Nat) (as rest : List Value), lk = .ref m0 ∧ z = .inr (.inr (m0 % 100000, as, rest)) ∧ st = as.reverse ++ rest ∧
    as.length = (if obj then (ev_mt (m0 % 100000)).2.1 + 1 else (ev_mt (m0 % 100000)).2.1) ∧ ev_cat rest ≤ 8 ∧ (ev_ent as).length ≤ (ev_mt (m0 % 100000)).1 ∧ as.all ev_nd = true ∧
    (virt = true → ∃ x t, as = .ref x :: t ∧ ev_recv σ x (ev_mt (m0 % 100000)).2.2.2 = true) ∧ (virt = false → obj = true → ∃ x t, as = .ref x :: t ∧ 1000 ≤ x) := by
  unfold ev_call at h
  split at h
  · rename_i m0
    dsimp only at h
    generalize hn : (if obj then (ev_mt (m0 % 100000)).2.1 + 1 else (ev_mt (m0 % 100000)).2.1) = n at h
    have hst : st = (st.take n).reverse.reverse ++ st.drop n := by rw [List.reverse_reverse, List.take_append_drop]
    generalize (st.take n).reverse = as at h hst
    split at h
    · rename_i hc
      obtain ⟨c1, c2, c3, c4⟩ := hc
      split at h
      · rename_i hv
        split at h
        · rename_i x t
          split at h
          · rename_i hr
            cases h
            exact ⟨m0, _, _, rfl, rfl, hst, by rw [hn]; exact c1, c2, c3, c4, fun _ => ⟨x, t, rfl, hr⟩, fun q => by rw [hv] at q; cases q⟩
          · cases h
        · cases h
      · rename_i hv
        split at h
        · rename_i ho
          split at h
          · rename_i x t
            split at h
            · rename_i hr
              cases h
              exact ⟨m0, _, _, rfl, rfl, hst, by rw [hn]; exact c1, c2, c3, c4, fun q => absurd q hv, fun _ _ => ⟨x, t, rfl, hr⟩⟩
            · cases h
          · cases h
        · rename_i ho
          cases h
          exact ⟨m0, _, _, rfl, rfl, hst, by rw [hn]; exact c1, c2, c3, c4, fun q => absurd q hv, fun _ q => absurd q ho⟩
    · cases h
  · cases h
theorem ev_OA.upd {V : Nat → Value} {B : Nat} {σ : ev_M} {s : State} {H : Heap} {x j : Nat} {v : Int32} (hx : 1000 ≤ x) (hA : ev_OA V B σ s H) : ev_OA V B (σ.1, σ.2.1, σ.2.2.1, ev_upd σ.2.2.2 x j v) s H :=
  ev_OA.same (σ := σ) rfl (fun i => ev_upd_ne (by omega) i) hA
theorem ev_OA.cpy {V : Nat → Value} {B : Nat} {σ : ev_M} {s : State} {H : Heap} {b : Nat} {g : Nat → Int32} (hb : 1000 ≤ b) (hA : ev_OA V B σ s H) : ev_OA V B (σ.1, σ.2.1, σ.2.2.1, fun x j => if x = b then g j else σ.2.2.2 x j) s H :=
  ev_OA.same (σ := σ) rfl (fun i => if_neg (by omega)) hA
section EVN
variable {p : Program} {l : Launch} {en : Env} {R : Room} {s : State} {mid : MethodId} {args : Array Value} {below : List Frame} {meth : Method} {c : Code} {H : Heap} {locs : List Loc} {Q : State → Prop}
variable {B : Nat} {V : Nat → Value} {dC : Nat → ClassId} {dI : Nat → Nat → Nat} {dA : Nat → ClassId}
set_option maxHeartbeats 8000000 in
theorem ev_stepN (hV : ev_V V B) {y : MethodName} {bytes : ByteArray} {nL : Nat} (hx : p.tables.exec = Jvm.exec) (hb : c.code = bytes) (hml : c.maxLocals = nL) (hown : s.vm.findClass y.cls = some mid.cls) (hnm : meth.name = y.name) (hTB : ev_TB s) (hK : va_K (dC, dI) vwCl (ev_tys dA) s) (hO : ev_Old V B s s.heap) (hfr : 1 ≤ R.frames) (hlo : 39 ≤ R.locals)
    {m k : Nat} {i : Instr} {len : Nat} {lk : Value} {pl : List Nat} (hck : ev_ck y bytes k (i, len, lk) pl = true) {ls ls' : List (Option Value)} {st st' : List Value} {σ σ' : ev_M} {k' : Nat} (hs : ev_step m k (i, len, lk) ls st σ = some (.inl (k', ls', st', σ')))
    {lsR : Array Slot} (hl : ev_ls V nL ls lsR) (hN : ev_New V B dC dI dA σ H) (hA : ev_OA V B σ s s.heap) (hS : va_S (ev_B B) s.heap H locs) {t0 : Nat} (ht0 : t0 ≤ σ.1) (hc : σ'.1 - t0 ≤ R.cells) (hsl : ev_sl σ'.1 - ev_sl t0 ≤ R.slots)
    (kk : ∀ (H' : Heap) (locs' : List Loc) (lsR' : Array Slot), ev_ls V nL ls' lsR' → ev_New V B dC dI dA σ' H' → ev_OA V B σ' s s.heap → va_S (ev_B B) s.heap H' locs' → W p l en R s mid args below meth c H' locs' (σ'.1 - t0) (ev_sl σ'.1 - ev_sl t0) Q (F0 mid k' lsR' (st'.map (ev_av V)))) :
    W p l en R s mid args below meth c H locs (σ.1 - t0) (ev_sl σ.1 - ev_sl t0) Q (F0 mid k lsR (st.map (ev_av V))) := by
  by_cases hi : ev_isA i = true
  · have hσ : σ' = σ := (ev_stepA (p := p) (l := l) (en := en) (R := R) (s := s) (mid := mid) (args := args) (below := below) (meth := meth) (c := c) (H := H) (locs := locs) (Q := fun _ => True) (cells := 0) (slots := 0) hV hx hb hck hs hl (fun lsR' h' => by
      intro T hT X
      exact ⟨_, Steps.refl _, trivial⟩) hi).1
    subst hσ
    exact (ev_stepA hV hx hb hck hs hl (fun lsR' h' => kk H locs lsR' h' hN hA hS) hi).2
  · simp only [ev_ck, Bool.and_eq_true, decide_eq_true_eq, Bool.or_eq_true] at hck
    obtain ⟨⟨hd, hln⟩, hm⟩ := hck
    cases i with
    | ldc z =>
      obtain rfl : len = 2 := by simpa [ev_ilen] using hln
      dsimp only [ev_step] at hs
      obtain ⟨rfl, rfl, rfl, rfl⟩ := ev_next_some hs
      cases lk with
      | int v => exact lv_ldc hx hb hown (hTB.use hm args) hd (kk _ _ _ hl hN hA hS)
      | ref x =>
        simp only [decide_eq_true_eq] at hm
        cases hq : ev_strs[x]? with
        | none => rw [hq] at hm; cases hm
        | some q =>
          rw [hq] at hm
          obtain ⟨a, e1, e2⟩ := hO.2.2.2 x q hq
          simp only [Option.map_some, Option.some.injEq, Prod.mk.injEq] at hm
          rw [hm.1, hm.2] at e2
          have h4 := kk _ _ _ hl hN hA hS
          rw [List.map_cons, ev_av_ref, e1] at h4
          exact va_ldcS hx hb hown e2 hd h4
      | _ => cases hm
    | ldc_w z =>
      obtain rfl : len = 3 := by simpa [ev_ilen] using hln
      dsimp only [ev_step] at hs
      obtain ⟨rfl, rfl, rfl, rfl⟩ := ev_next_some hs
      cases lk with
      | int v => exact lv_ldcw hx hb hown (hTB.use hm args) hd (kk _ _ _ hl hN hA hS)
      | _ => cases hm
    | ldc2_w z =>
      obtain rfl : len = 3 := by simpa [ev_ilen] using hln
      dsimp only [ev_step] at hs
      obtain ⟨rfl, rfl, rfl, rfl⟩ := ev_next_some hs
      cases lk with
      | long v => exact lv_ldc2 hx hb hown (hTB.use hm args) hd (kk _ _ _ hl hN hA hS)
      | _ => cases hm
    | getstatic z =>
      obtain rfl : len = 3 := by simpa [ev_ilen] using hln
      dsimp only [ev_step] at hs
      obtain ⟨rfl, rfl, rfl, rfl⟩ := ev_next_some hs
      obtain ⟨q, hq, h1⟩ := List.any_eq_true.mp hm
      simp only [Bool.and_eq_true, decide_eq_true_eq] at h1
      have h4 := kk _ _ _ hl hN hA hS
      rw [List.map_cons, ← h1.1] at h4
      exact va_gets hx hb (hO.1 q hq) hS hown (hTB.use h1.2 args) (fun _ h => h) hd h4
    | arraylength =>
      obtain rfl : len = 1 := by simpa [ev_ilen] using hln
      dsimp only [ev_step] at hs
      obtain ⟨x, r, rfl, h⟩ := ev_r_some hs
      split at h
      · rename_i q hq
        obtain ⟨rfl, rfl, rfl, rfl⟩ := ev_next_some h
        obtain ⟨a, cell, e1, e2, e3, e4, e5, e6, e7⟩ := ev_arr hV hK hN hA hS (t := q.1) (n := q.2) hq
        rw [List.map_cons, ev_av_ref, e1]
        exact W.alen hx hb e2 e3 e6 rfl rfl hd (kk _ _ _ hl hN hA hS)
      · cases h
    | iaload =>
      obtain rfl : len = 1 := by simpa [ev_ilen] using hln
      dsimp only [ev_step] at hs
      obtain ⟨a, j, r, rfl, h⟩ := ev_ri_some hs
      obtain ⟨n, h1, h2, h3, h4⟩ := ev_ald_some h
      obtain ⟨rfl, rfl, rfl, rfl⟩ := ev_next_some h4
      exact ev_Wald hx hb hV hK hN hA hS h1 h2 h3 hd (Or.inl ⟨rfl, rfl⟩) (kk _ _ _ hl hN hA hS)
    | caload =>
      obtain rfl : len = 1 := by simpa [ev_ilen] using hln
      dsimp only [ev_step] at hs
      obtain ⟨a, j, r, rfl, h⟩ := ev_ri_some hs
      obtain ⟨n, h1, h2, h3, h4⟩ := ev_ald_some h
      obtain ⟨rfl, rfl, rfl, rfl⟩ := ev_next_some h4
      exact ev_Wald hx hb hV hK hN hA hS h1 h2 h3 hd (Or.inr (Or.inl ⟨rfl, rfl⟩)) (kk _ _ _ hl hN hA hS)
    | baload =>
      obtain rfl : len = 1 := by simpa [ev_ilen] using hln
      dsimp only [ev_step] at hs
      obtain ⟨a, j, r, rfl, h⟩ := ev_ri_some hs
      obtain ⟨n, h1, h2, h3, h4⟩ := ev_ald_some h
      obtain ⟨rfl, rfl, rfl, rfl⟩ := ev_next_some h4
      exact ev_Wald hx hb hV hK hN hA hS h1 h2 h3 hd (Or.inr (Or.inr (Or.inl ⟨rfl, by split <;> simp⟩))) (kk _ _ _ hl hN hA hS)
    | aaload =>
      obtain rfl : len = 1 := by simpa [ev_ilen] using hln
      dsimp only [ev_step] at hs
      obtain ⟨a, j, r, rfl, h⟩ := ev_ri_some hs
      obtain ⟨n, h1, h2, h3, h4⟩ := ev_ald_some h
      obtain ⟨rfl, rfl, rfl, rfl⟩ := ev_next_some h4
      exact ev_Wald hx hb hV hK hN hA hS h1 h2 h3 hd (Or.inr (Or.inr (Or.inr ⟨rfl, rfl⟩))) (kk _ _ _ hl hN hA hS)
    | iastore =>
      obtain rfl : len = 1 := by simpa [ev_ilen] using hln
      dsimp only [ev_step] at hs
      obtain ⟨a, j, x, r, rfl, h⟩ := ev_rii_some hs
      obtain ⟨g1, g2, n, h1, h2, h3, h4⟩ := ev_ast_some h
      obtain ⟨rfl, rfl, rfl, rfl⟩ := ev_next_some h4
      exact ev_Wast hx hb hV hK hN hS g1 g2 h1 h2 h3 hd (Or.inl ⟨rfl, rfl, rfl⟩) fun H' locs' hN' hS' => kk H' locs' lsR hl hN' (hA.upd g1) hS'
    | castore =>
      obtain rfl : len = 1 := by simpa [ev_ilen] using hln
      dsimp only [ev_step] at hs
      obtain ⟨a, j, x, r, rfl, h⟩ := ev_rii_some hs
      obtain ⟨g1, g2, n, h1, h2, h3, h4⟩ := ev_ast_some h
      obtain ⟨rfl, rfl, rfl, rfl⟩ := ev_next_some h4
      exact ev_Wast hx hb hV hK hN hS g1 g2 h1 h2 h3 hd (Or.inr (Or.inl ⟨rfl, rfl, rfl⟩)) fun H' locs' hN' hS' => kk H' locs' lsR hl hN' (hA.upd g1) hS'
    | bastore =>
      obtain rfl : len = 1 := by simpa [ev_ilen] using hln
      dsimp only [ev_step] at hs
      obtain ⟨a, j, x, r, rfl, h⟩ := ev_rii_some hs
      obtain ⟨g1, g2, n, h1, h2, h3, h4⟩ := ev_ast_some h
      obtain ⟨rfl, rfl, rfl, rfl⟩ := ev_next_some h4
      exact ev_Wast hx hb hV hK hN hS g1 g2 h1 h2 h3 hd (Or.inr (Or.inr ⟨rfl, rfl, rfl⟩)) fun H' locs' hN' hS' => kk H' locs' lsR hl hN' (hA.upd g1) hS'
    | getfield z =>
      obtain rfl : len = 3 := by simpa [ev_ilen] using hln
      dsimp only [ev_step] at hs
      obtain ⟨x, r, rfl, h⟩ := ev_r_some hs
      cases lk with
      | ref n0 =>
        obtain ⟨n, rfl⟩ : ∃ n : Nat, n = n0 := ⟨n0, rfl⟩
        dsimp only at h hm
        split at h
        · rename_i v hv
          obtain ⟨rfl, rfl, rfl, rfl⟩ := ev_next_some h
          by_cases hx0 : x < 1000
          · have hv2 : ev_of x (n % 100000) = some v := by
              unfold ev_getf at hv
              rw [if_pos hx0] at hv
              exact hv
            have hn0 : ¬ n < 1280 := by
              intro hn
              rw [Nat.mod_eq_of_lt (by omega)] at hv2
              unfold ev_of at hv2
              split at hv2
              · rw [if_neg (by omega), if_neg (by omega)] at hv2
                cases hv2
              · split at hv2
                · split at hv2
                  · rw [if_neg (by omega), if_neg (by omega), if_neg (by omega), if_neg (by omega)] at hv2
                    cases hv2
                  · cases hv2
                · cases hv2
            exact ev_WgetO hx hb hTB hO hS hown hv2 hn0 hm hd (kk _ _ _ hl hN hA hS)
          · have hn0 : n < 1280 := by
              obtain ⟨-, q, o, hq, hqc, -⟩ := ev_getf_new hx0 hv
              obtain ⟨r', ty, hr', -⟩ := ev_shO hq
              have hlt : q.1 < 10 := (List.getElem?_eq_some_iff.mp hr').1
              rcases Nat.lt_or_ge n 1280 with h0 | h0
              · exact h0
              · exfalso
                unfold ev_ckF at hm
                rw [if_neg (by omega)] at hm
                split at hm
                · rename_i h1
                  rw [Nat.mod_eq_of_lt h1] at hqc
                  omega
                · simp only [Bool.and_eq_true, decide_eq_true_eq] at hm
                  omega
            rw [Nat.mod_eq_of_lt (by omega)] at hv
            exact ev_Wget hx hb hV hTB hK hN hown hx0 hv hn0 hm hd (kk _ _ _ hl hN hA hS)
        · cases h
      | _ => cases hm
    | putfield z =>
      obtain rfl : len = 3 := by simpa [ev_ilen] using hln
      dsimp only [ev_step] at hs
      obtain ⟨x, v, r, rfl, h⟩ := ev_rv_some hs
      cases lk with
      | ref n0 =>
        obtain ⟨n, rfl⟩ : ∃ n : Nat, n = n0 := ⟨n0, rfl⟩
        dsimp only at h hm
        split at h
        · rename_i σ2 hv
          obtain ⟨rfl, rfl, rfl, rfl⟩ := ev_next_some h
          have hlt : σ'.1 = σ.1 ∧ ev_le σ σ' := by
            obtain ⟨h0, h1, q, o, -, -, -, ⟨-, z, -, rfl⟩ | ⟨b, -, -, -, rfl⟩⟩ := ev_putf_some hv
            · exact ⟨rfl, Nat.le_refl _, fun j => ev_upd_ne (by omega) j, fun _ => rfl⟩
            · exact ⟨rfl, Nat.le_refl _, fun _ => rfl, fun _ => rfl⟩
          rw [hlt.1] at kk
          exact ev_Wput hx hb hV hTB hK hN hS hown hnm hv hm hd fun H' locs' hN' hS' => kk H' locs' lsR hl hN' (hA.le hlt.2) hS'
        · cases h
      | _ => cases hm
    | new z =>
      obtain rfl : len = 3 := by simpa [ev_ilen] using hln
      dsimp only [ev_step] at hs
      split at hs
      · rename_i n q hsh
        split at hs
        · rename_i hqn
          subst hqn
          obtain ⟨rfl, rfl, rfl, rfl⟩ := ev_next_some hs
          dsimp only at hm
          split at hm
          · rename_i r hr
            simp only [Bool.and_eq_true] at hm
            have hmono : ev_sl t0 ≤ ev_sl σ.1 := ev_sl_mono ht0
            have hstep : ev_sl (σ.1 + 1) = ev_sl σ.1 + ev_sz σ.1 := rfl
            dsimp only at hc hsl kk
            refine ev_Wnew hx hb hV hTB hK hN hS hown hsh hr hm.1.1 hm.1.2 hm.2 hd (by omega) (by omega) fun H' hN' hS' => ?_
            have h4 := kk H' locs lsR hl hN' hA hS'
            rw [show σ.1 + 1 - t0 = σ.1 - t0 + 1 by omega, show ev_sl (σ.1 + 1) - ev_sl t0 = ev_sl σ.1 - ev_sl t0 + ev_sz σ.1 by omega] at h4
            exact h4
          · cases hm
        · cases hs
      · cases hs
    | newarray t =>
      obtain rfl : len = 2 := by simpa [ev_ilen] using hln
      dsimp only [ev_step] at hs
      obtain ⟨x, r, rfl, h⟩ := ev_i_some hs
      split at h
      · rename_i q hsh
        split at h
        · rename_i hqn
          obtain ⟨rfl, rfl, rfl, rfl⟩ := ev_next_some h
          simp only [Bool.and_eq_true, decide_eq_true_eq] at hm
          have hmono : ev_sl t0 ≤ ev_sl σ.1 := ev_sl_mono ht0
          have hstep : ev_sl (σ.1 + 1) = ev_sl σ.1 + ev_sz σ.1 := rfl
          dsimp only at hc hsl kk
          obtain ⟨q1, q2⟩ := q
          obtain ⟨e1, e2, e3⟩ := hqn
          dsimp only at e1 e3
          subst e1
          refine ev_Wnewa hx hb hV hTB hK hN hS hsh hm.1 e2 e3 hd (by omega) (by omega) fun H' hN' hS' => ?_
          have h4 := kk H' locs lsR hl hN' hA hS'
          rw [show σ.1 + 1 - t0 = σ.1 - t0 + 1 by omega, show ev_sl (σ.1 + 1) - ev_sl t0 = ev_sl σ.1 - ev_sl t0 + ev_sz σ.1 by omega] at h4
          exact h4
        · cases h
      · cases h
    | invokespecial z =>
      obtain rfl : len = 3 := by simpa [ev_ilen] using hln
      dsimp only [ev_step] at hs
      split at hs
      · rename_i hlk
        subst hlk
        obtain ⟨x, r, rfl, h⟩ := ev_r_some hs
        split at h
        · rename_i hcat
          obtain ⟨rfl, rfl, rfl, rfl⟩ := ev_next_some h
          simp only [Bool.and_eq_true] at hm
          rw [List.map_cons, ev_av_ref]
          have h5 := ev_cat_map hV st'
          rw [hV.2.1 x hcat.1]
          exact W.objInit hx hb hown (hTB.use hm.1.1 args) (hTB.use hm.1.2 args) (hTB.use hm.2 args) rfl (by rw [hml]; exact hl.2.1) rfl hd hfr (by show 2 * 0 + _ + 12 ≤ _; rw [h5]; omega) (kk _ _ _ hl hN hA hS)
        · cases h
      · obtain ⟨m0, as, rest, -, h, -⟩ := ev_call_some hs
        cases h
    | invokestatic z =>
      obtain rfl : len = 3 := by simpa [ev_ilen] using hln
      dsimp only [ev_step] at hs
      split at hs
      · rename_i hlk
        subst hlk
        obtain ⟨n, dp, sp, a, b, r, na, nb, rfl, g1, g2, g3, g4, hcat, g5, g6, g7, g8, g9, g10, g11, h⟩ := ev_copy_some hs
        obtain ⟨rfl, rfl, rfl, rfl⟩ := ev_next_some h
        simp only [Bool.and_eq_true] at hm
        have h5 := ev_cat_map hV st'
        exact ev_Wcopy hx hb (by rw [hml]; exact hl.2.1.symm) hV hTB hK hN hS hown hm.1.1.1 hm.1.1.2 hm.1.2 hm.2 g1 g3 g2 g4 g5 g6 g7 g8 g9 g10 g11 hfr (by rw [h5]; omega) hd fun H' locs' hN' hS' => kk H' locs' lsR hl hN' (hA.cpy g2) hS'
      · obtain ⟨m0, as, rest, -, h, -⟩ := ev_call_some hs
        cases h
    | invokevirtual z =>
      dsimp only [ev_step] at hs
      obtain ⟨m0, as, rest, -, h, -⟩ := ev_call_some hs
      cases h
    | ireturn =>
      dsimp only [ev_step] at hs
      split at hs
      · split at hs <;> cases hs
      · cases hs
    | lreturn =>
      dsimp only [ev_step] at hs
      split at hs
      · split at hs <;> cases hs
      · cases hs
    | areturn =>
      dsimp only [ev_step] at hs
      split at hs
      · split at hs <;> cases hs
      · split at hs <;> cases hs
      · cases hs
    | return_ =>
      dsimp only [ev_step] at hs
      split at hs
      · split at hs <;> cases hs
      · cases hs
    | _ => first | exact absurd rfl hi | cases hs
end EVN

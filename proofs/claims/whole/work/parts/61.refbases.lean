/-! BASES in the reference -/
section CTR
variable {d : Nat} {I A : Nat → Nat → Int32} {K : Int32 → (Nat → Nat → Int32) → (Nat → Nat → Int32) → Prop} {V : (Nat → Nat → Int32) → (Nat → Nat → Int32) → Prop} {i k : Nat} {N : Nat} {xs : Nat → Int32} {u w t o : List Int32} {ws : List (List Int32)} {me : Nat → Bool} {acc : List Nat} {as : List AF}
theorem mem.fx {S : List (Nat × Nat)} {T : List Nat} {I' A' : Nat → Nat → Int32} (h : mem A ws me) (g : fx S T I A I' A') (hT : 1038 ∉ T) : mem A' ws me := fun k hk => by
  rw [g.2 1038 _ hT]
  exact h k hk
theorem c_isMemberM (ho : ok ws) (hm : mem A ws me) (hi : ws[k]? = some w) (h1 : me k = true → K 1 I A) (h0 : me k = false → K 0 I A) : ev_Bi d 164 0 [some (.ref 1033), some (.int (nI k))] I A K := by
  have hk := ho.at hi
  refine t_M_isMember_0 _ (cf npo ⟨vin (by omega), ?_⟩)
  rw [ncl]
  refine ⟨fun g => h0 ((hm k hk.2.1).mp g), fun g => h1 ?_⟩
  cases hz : me k with
  | true => rfl
  | false => exact absurd ((hm k hk.2.1).mpr hz) g
theorem c_isMemberN (h0 : K 0 I A) : ev_Bi d 164 0 [some (.ref 1033), some (.int (-1))] I A K := t_M_isMember_0 _ (ct (by decide) h0)
theorem c_addM (ho : ok ws) {c : Nat} {v : List Int32} (hi : ws[c]? = some v) {f t : Nat} (hf : f ≤ t) (hfv : f ≤ v.length) (ht : t ≤ 1000) (hw : mw I A ws) (hr : rb I A u) (hl : u.length + v.length ≤ 80) (h : ∀ I' A', rb I' A' (u ++ (v.take t).drop f) → fq I A I' A' → V I' A') : ev_Bv d 166 0 [some (.ref 1033), some (.int (nI c)), some (.int (nI f)), some (.int (nI t)), none] I A V := by
  have hk := ho.at hi
  have loop : ∀ n j I1 A1, f ≤ j → j ≤ t → j ≤ v.length → (min t v.length) ≤ j + n → rb I1 A1 (u ++ (v.take j).drop f) → fq I A I1 A1 → ev_Bv d 166 3 [some (.ref 1033), some (.int (nI c)), some (.int (nI f)), some (.int (nI t)), some (.int (nI j))] I1 A1 V := by
    intro n
    induction n with
    | zero =>
      intro j I1 A1 h1 h2 h3 h4 r1 f1
      have hw1 := hw.fq f1
      refine t_M_add_3 _ _ _ _ (cf nm5 ?_)
      by_cases ct' : t ≤ j
      · refine ct (ule ct') (h _ _ ?_ f1)
        have : j = t := by omega
        rw [← this]
        exact r1
      · refine cf (nle (by omega)) ⟨vin (by omega), ?_⟩
        rw [ncl, (hw1.2 c v hi).1]
        refine ct (ule (by omega)) (h _ _ ?_ f1)
        have : j = v.length := by omega
        rw [List.take_of_length_le (by omega)]
        rw [this, List.take_length] at r1
        exact r1
    | succ n ih =>
      intro j I1 A1 h1 h2 h3 h4 r1 f1
      have hw1 := hw.fq f1
      refine t_M_add_3 _ _ _ _ (cf nm5 ?_)
      by_cases ct' : t ≤ j
      · refine ct (ule ct') (h _ _ ?_ f1)
        have : j = t := by omega
        rw [← this]
        exact r1
      · refine cf (nle (by omega)) ⟨vin (by omega), ?_⟩
        rw [ncl (a := c), (hw1.2 c v hi).1]
        by_cases cv : v.length ≤ j
        · refine ct (ule (by omega)) (h _ _ ?_ f1)
          have : j = v.length := by omega
          rw [List.take_of_length_le (by omega)]
          rw [this, List.take_length] at r1
          exact r1
        · have e24 : 24 * nI c = nI (24 * c) := nI_mul 24 c
          have hlen : (u ++ (v.take j).drop f).length = u.length + (j - f) := by
            rw [List.length_append, List.length_drop, List.length_take]
            omega
          rw [e24, nI_add, r1.1, hlen, nI_1 (u.length + (j - f)), nI_1 j, ncl, ncl, (hw1.2 c v hi).2 j (by omega)]
          refine cf (nle (by omega)) ⟨vin (by omega), vin (by omega), ih (j + 1) _ _ (by omega) (by omega) (by omega) (by omega) ?_ (f1.tr (fx.tr (fx.iu (by simp)) (fx.au (by simp))))⟩
          have h5 := rb_add r1 (c := v.getD j 0) (by omega)
          rw [hlen] at h5
          have e : u ++ (v.take (j + 1)).drop f = u ++ (v.take j).drop f ++ [v.getD j 0] := by
            rw [List.append_assoc, List.take_add_one, List.drop_append_of_le_length (by rw [List.length_take]; omega), List.getD_eq_getElem?_getD, List.getElem?_eq_getElem (by omega)]
            rfl
          rw [e]
          exact h5
  refine t_M_add_0 _ _ _ (loop v.length f I A (by omega) hf hfv (by omega) ?_ fx.rf)
  rw [List.drop_eq_nil_of_le (by rw [List.length_take]; omega), List.append_nil]
  exact hr
theorem c_addN {f t : Nat} (h : V I A) : ev_Bv d 166 0 [some (.ref 1033), some (.int (-5)), some (.int (nI f)), some (.int (nI t)), none] I A V := t_M_add_0 _ _ _ (t_M_add_3 _ _ _ _ (ct rfl h))
theorem c_addI (ho : ok ws) {x : Int32} {v : List Int32} (hc : (x = -5 ∧ v = []) ∨ ∃ c, x = nI c ∧ ws[c]? = some v) (hw : mw I A ws) (hr : rb I A u) (hl : u.length ≤ 50) (h : ∀ I' A', rb I' A' (u ++ v) → fq I A I' A' → V I' A') : ev_Bv d 166 0 [some (.ref 1033), some (.int x), some (.int 0), some (.int 100), none] I A V := by
  rcases hc with ⟨c1, c2⟩ | ⟨c, c1, c2⟩
  · rw [c1]
    refine c_addN (f := 0) (t := 100) (h _ _ ?_ fx.rf)
    rw [c2, List.append_nil]
    exact hr
  · have hk := ho.at c2
    rw [c1]
    refine c_addM (f := 0) (t := 100) ho c2 (by omega) (by omega) (by omega) hw hr (by omega) (fun I1 A1 r1 f1 => h _ _ ?_ f1)
    rw [List.drop_zero, List.take_of_length_le (by omega)] at r1
    exact r1
theorem c_byAffix (hd : 2 ≤ d) (ho : ok ws) (hw : mw I A ws) (hc : amr I A ws as) (hm : mem A ws me) (hi : ws[i]? = some w) {a : Nat} {q : AF} (hq : as[a]? = some q) (h1 : ∀ k, bsa ws me w q = some k → ∀ I' A', fq I A I' A' → K (nI k) I' A') (h0 : bsa ws me w q = none → ∀ I' A', fq I A I' A' → K (-1) I' A') : ev_Bi d 165 0 [some (.ref 1033), some (.int (nI i)), some (.int (nI a)), none, none, none, none, none] I A K := by
  obtain ⟨d, rfl⟩ : ∃ e, d = e + 1 := ⟨d - 1, by omega⟩
  have ha := (List.getElem?_eq_some_iff.mp hq).1
  have h20 := hc.2.1
  have hk := ho.at hi
  have hv : vp_in (nI a) 20 := vin (by omega)
  obtain ⟨q1, ⟨e, q2, q3⟩, q4⟩ := hc.2.2 a q hq
  have hke := ho.at q3
  have hne : q.2.1 ≠ [] := fun c => by
    rw [c] at hke
    simp at hke
  have no : chg w q = none → bsa ws me w q = none := fun g => by rw [bsa, g]
  refine t_M_byAffix_0 _ _ ⟨hv, ?_⟩
  rw [ncl (a := a), q2, ncl (a := e), ncl (a := i), (hw.2 e _ q3).1, (hw.2 i _ hi).1]
  refine ⟨vin (by omega), hv, vin (by omega), ?_⟩
  by_cases cl : q.2.1.length < w.length
  · refine ct (ult cl) ⟨hv, ?_⟩
    have e24 : 24 * nI e = nI (24 * e) := nI_mul 24 e
    rw [nI_sub (by omega), e24]
    have s164 : ∀ v I1 A1 x3 x4 x5 x6 x7, rb I1 A1 v → fq I A I1 A1 → (v.length ≤ 24 → chg w q = some v) → (¬ v.length ≤ 24 → chg w q = none) → ev_Bi (d + 1) 165 164 [some (.ref 1033), some (.int (nI i)), some (.int (nI a)), some (.int x3), some (.int x4), some (.int x5), some (.int x6), some (.int x7)] I1 A1 K := fun v I1 A1 x3 x4 x5 x6 x7 r1 f1 g1 g2 => by
      have h80 := r1.2.1
      have hm1 : mem A1 ws me := hm.fx f1 (by decide)
      refine t_M_byAffix_164 _ _ _ _ _ _ _ ?_
      rw [r1.1]
      by_cases c24 : v.length ≤ 24
      · refine ct (ule (b := 24) c24) (c_findM0 ho (hw.fq f1) r1 (fun k hk => c_isMemberM ho hm1 (fi_get hk) (fun m => z1 (h1 k ?_ _ _ f1)) (fun m => z0 (h0 ?_ _ _ f1))) (fun hk => c_isMemberN (z0 (h0 ?_ _ _ f1))))
        · rw [bsa, g1 c24]
          simp only
          rw [hk]
          simp only
          rw [if_pos m]
        · rw [bsa, g1 c24]
          simp only
          rw [hk]
          simp only
          rw [if_neg (by rw [m]; decide)]
        · rw [bsa, g1 c24]
          simp only
          rw [hk]
      · exact cf (nle (b := 24) (by omega)) (c_isMemberN (z0 (h0 (no (g2 c24)) _ _ f1)))
    have loop : ∀ n j, aat w q + q.2.1.length ≤ w.length → j + n = q.2.1.length → (∀ k, k < j → w.getD (aat w q + k) 0 = q.2.1.getD k 0) → ev_Bi (d + 1) 165 61 [some (.ref 1033), some (.int (nI i)), some (.int (nI a)), some (.int (nI q.2.1.length)), some (.int (nI (24 * e))), some (.int (nI w.length)), some (.int (nI (aat w q))), some (.int (nI j))] I A K := by
      intro n
      induction n with
      | zero =>
        intro j hat hj hh
        have hs : sa w (aat w q) q.2.1 := (sa_iff hne).mpr ⟨hat, fun k hk => hh k (by omega)⟩
        have g0 : fq I A (ev_upd I 1033 21 0) A := fx.iu (by simp)
        have r0 : rb (ev_upd I 1033 21 0) A [] := ⟨ev_upd_eq, by simp, fun j hj => by simp at hj⟩
        have hw0 := hw.fq g0
        refine t_M_byAffix_61 _ _ _ _ _ _ _ (ct (ule (by omega)) ⟨hv, ?_⟩)
        generalize ev_upd I 1033 21 0 = I0 at g0 r0 hw0 ⊢
        rw [ncl (a := a), nI_sub (by omega)]
        have hcl : ∀ x, ((x = -5 ∧ q.2.2 = []) ∨ ∃ c, x = nI c ∧ ws[c]? = some q.2.2) → q.2.2.length ≤ 24 := fun x hx => by
          rcases hx with ⟨_, c⟩ | ⟨c, _, c2⟩
          · rw [c]
            simp
          · have := ho.at c2
            omega
        have hcl' := hcl _ q4
        refine ⟨fun g => ⟨hv, c_addI ho q4 hw0 r0 (by simp) (fun I1 A1 r1 f1 => ?_)⟩, fun g => ?_⟩
        · have e1 : q.1 = false := q1.mp g
          rw [List.nil_append] at r1
          refine c_addM ho hi (by omega) (by omega) (by omega) (hw0.fq f1) r1 (by omega) (fun I2 A2 r2 f2 => ?_)
          rw [List.take_length] at r2
          refine s164 _ _ _ _ _ _ _ _ r2 (g0.tr (f1.tr f2)) (fun k => ?_) (fun k => ?_)
          · rw [List.length_append, List.length_drop] at k
            rw [chg, if_pos ⟨cl, hs, by omega⟩, if_neg (by rw [e1]; decide)]
          · rw [List.length_append, List.length_drop] at k
            rw [chg, if_neg (fun k' => absurd k'.2.2 (by omega))]
        · have e1 : q.1 = true := by
            cases hz : q.1 with
            | true => rfl
            | false => exact absurd (q1.mpr hz) g
          refine c_addM (f := 0) ho hi (by omega) (by omega) (by omega) hw0 r0 (by simp; omega) (fun I1 A1 r1 f1 => ⟨hv, ?_⟩)
          rw [List.drop_zero, List.nil_append] at r1
          have q4' : (A1 1047 a = -5 ∧ q.2.2 = []) ∨ ∃ c, A1 1047 a = nI c ∧ ws[c]? = some q.2.2 := by
            rw [f1.2 1047 a (by decide)]
            exact q4
          refine c_addI ho q4' (hw0.fq f1) r1 (by rw [List.length_take]; omega) (fun I2 A2 r2 f2 => s164 _ _ _ _ _ _ _ _ r2 (g0.tr (f1.tr f2)) (fun k => ?_) (fun k => ?_))
          · rw [List.length_append, List.length_take] at k
            rw [chg, if_pos ⟨cl, hs, by omega⟩, if_pos e1]
          · rw [List.length_append, List.length_take] at k
            rw [chg, if_neg (fun k' => absurd k'.2.2 (by omega))]
      | succ n ih =>
        intro j hat hj hh
        have e24' : 24 * nI i = nI (24 * i) := nI_mul 24 i
        refine t_M_byAffix_61 _ _ _ _ _ _ _ (cf (nle (by omega)) ?_)
        rw [e24', nI_add, nI_add, nI_add, nI_1, ncl (a := 24 * i + aat w q + j), ncl (a := 24 * e + j), Nat.add_assoc, (hw.2 i _ hi).2 _ (by omega), (hw.2 e _ q3).2 _ (by omega)]
        refine ⟨vin (by omega), vin (by omega), fun g => ih (j + 1) hat (by omega) (fun k hk => ?_), fun g => h0 (no ?_) _ _ fx.rf⟩
        · by_cases ce : k = j
          · rw [ce]
            exact g
          · exact hh k (by omega)
        · rw [chg, if_neg]
          exact fun k => sa_not hne (j := j) (by omega) g k.2.1
    refine ⟨fun g => ?_, fun g => ?_⟩
    · have e1 : q.1 = false := q1.mp g
      have eat : aat w q = 0 := if_neg (by rw [e1]; decide)
      have := loop q.2.1.length 0 (by rw [eat]; omega) (by omega) (fun k hk => absurd hk (by omega))
      rw [eat] at this
      exact this
    · have e1 : q.1 = true := by
        cases hz : q.1 with
        | true => rfl
        | false => exact absurd (q1.mpr hz) g
      have eat : aat w q = w.length - q.2.1.length := if_pos e1
      have := loop q.2.1.length 0 (by rw [eat]; omega) (by omega) (fun k hk => absurd hk (by omega))
      rw [eat] at this
      exact this
  · refine cf (nlt (by omega)) (h0 (no ?_) _ _ fx.rf)
    rw [chg, if_neg (fun k => cl k.1)]
end CTR

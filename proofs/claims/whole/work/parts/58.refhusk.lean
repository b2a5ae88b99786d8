/-! HUSK in the reference -/
section CTR
variable {d : Nat} {I A : Nat → Nat → Int32} {K : Int32 → (Nat → Nat → Int32) → (Nat → Nat → Int32) → Prop} {V : (Nat → Nat → Int32) → (Nat → Nat → Int32) → Prop} {n m i : Nat} {u w : List Int32} {ws : List (List Int32)} {rs : List HR} {b : Bool}
theorem c_endsWithM (ho : ok ws) (hw : mw I A ws) (hr : rb I A w) {e : List Int32} (hi : ws[i]? = some e) (h1 : e <:+ w → K 1 I A) (h0 : ¬ e <:+ w → K 0 I A) : ev_Bi d 152 0 [some (.ref 1033), some (.int (nI i)), none, none] I A K := by
  have h80 := hr.2.1
  have hk := ho.at hi
  have hne : e ≠ [] := fun c => by
    rw [c] at hk
    simp at hk
  refine t_M_endsWith_0 _ ⟨vin (by omega), ?_⟩
  rw [ncl, (hw.2 i e hi).1, hr.1]
  by_cases c : w.length < e.length
  · exact ct (ult c) (t_M_endsWith_21 _ _ _ (z0 ⟨by decide, h0 (fun k => absurd k.length_le (by omega))⟩))
  refine cf (nlt (by omega)) ?_
  have loop : ∀ n j, j + n = e.length → (∀ k, k < j → w.getD (w.length - e.length + k) 0 = e.getD k 0) → ev_Bi d 152 21 [some (.ref 1033), some (.int (nI i)), some (.int 1), some (.int (nI j))] I A K := by
    intro n
    induction n with
    | zero =>
      intro j hj hh
      refine t_M_endsWith_21 _ _ _ (z1 ⟨vin (by omega), ?_⟩)
      rw [ncl, (hw.2 i e hi).1]
      exact ct (ule (by omega)) ⟨by decide, h1 (sf_iff.mpr ⟨by omega, (sa_iff hne).mpr ⟨by omega, fun k hk => hh k (by omega)⟩⟩)⟩
    | succ n ih =>
      intro j hj hh
      have e24 : 24 * nI i = nI (24 * i) := nI_mul 24 i
      refine t_M_endsWith_21 _ _ _ (z1 ⟨vin (by omega), ?_⟩)
      rw [ncl, (hw.2 i e hi).1, hr.1, nI_sub (by omega), e24, nI_add, nI_add, ncl, ncl, hr.2.2 _ (by omega), (hw.2 i e hi).2 j (by omega), nI_1]
      refine cf (nle (by omega)) ⟨vin (by omega), vin (by omega), vin (by omega), fun q => ih (j + 1) (by omega) (fun k hk => ?_), fun q => t_M_endsWith_21 _ _ _ (z0 ⟨by decide, h0 (fun k => sa_not hne (j := j) (by omega) q (sf_iff.mp k).2)⟩)⟩
      by_cases ce : k = j
      · rw [ce]
        exact q
      · exact hh k (by omega)
  exact loop e.length 0 (by omega) (fun k hk => absurd hk (by omega))
theorem c_isGoodM (hd : 1 ≤ d) (hr : rb I A w) (hn : n ≤ w.length) (hm : m ≤ 24) (h1 : gd w n m → K 1 I A) (h0 : ¬ gd w n m → K 0 I A) : ev_Bi d 153 0 [some (.ref 1033), some (.int (nI n)), some (.int (nI m)), none, none] I A K := by
  obtain ⟨d, rfl⟩ : ∃ e, d = e + 1 := ⟨d - 1, by omega⟩
  have h80 := hr.2.1
  refine t_M_isGood_0 _ _ ?_
  by_cases c1 : n < 1
  · exact ct (ult (b := 1) c1) (h0 (fun k => absurd k.1 (by omega)))
  refine cf (nlt (b := 1) (by omega)) ?_
  rw [nI_add]
  by_cases c3 : n + m ≤ 24
  · have a0 : A 1048 (0 : Int32).toNatClampNeg = w.getD 0 0 := hr.2.2 0 (by omega)
    rw [a0]
    refine ct (ule (b := 24) c3) ⟨vin (n := 0) (by omega), c_isVowelM (fun v => z1 ?_) (fun v => z0 ?_)⟩
    · by_cases c2 : n < 2
      · exact ct (ult (b := 2) c2) (h0 (fun k => absurd k.1 (by omega)))
      · exact cf (nlt (b := 2) (by omega)) (h1 ⟨by omega, c3, .inl v⟩)
    have loop : ∀ r j (x : Int32), j + r = n → 1 ≤ j → ((x = 0 ∧ ∀ k, 1 ≤ k → k < j → ¬ vy (w.getD k 0)) ∨ (x = 1 ∧ ∃ k, k < n ∧ 1 ≤ k ∧ vy (w.getD k 0))) → ev_Bi (d + 1) 153 43 [some (.ref 1033), some (.int (nI n)), some (.int (nI m)), some (.int x), some (.int (nI j))] I A K := by
      intro r
      induction r with
      | zero =>
        intro j x hj hj1 hx
        refine t_M_isGood_43 _ _ _ _ (ct (ule (by omega)) ?_)
        by_cases cn : n < 3
        · refine ct (ult (b := 3) cn) (h0 ?_)
          rintro ⟨_, _, k | k⟩
          · exact v k
          · omega
        refine cf (nlt (b := 3) (by omega)) ?_
        rcases hx with ⟨rfl, hx⟩ | ⟨rfl, hx⟩
        · refine z0 (h0 ?_)
          rintro ⟨_, _, k | ⟨_, k, k1, k2, k3⟩⟩
          · exact v k
          · exact hx k k2 (by omega) k3
        · exact z1 (h1 ⟨by omega, c3, .inr ⟨by omega, hx⟩⟩)
      | succ r ih =>
        intro j x hj hj1 hx
        refine t_M_isGood_43 _ _ _ _ (cf (nle (by omega)) ?_)
        have yes : vy (w.getD j 0) → ev_Bi (d + 1) 153 43 [some (.ref 1033), some (.int (nI n)), some (.int (nI m)), some (.int (x ||| 1)), some (.int (nI j + 1))] I A K := fun g => by
          rw [nI_1]
          refine ih (j + 1) _ (by omega) (by omega) (.inr ⟨?_, j, by omega, hj1, g⟩)
          rcases hx with ⟨rfl, _⟩ | ⟨rfl, _⟩ <;> decide
        rw [ncl, hr.2.2 _ (by omega)]
        refine ⟨vin (by omega), c_isVowelM (fun v' => z1 (yes (.inl v'))) (fun v' => z0 ⟨vin (by omega), ?_⟩)⟩
        rw [hr.2.2 _ (by omega)]
        refine ⟨fun g => yes (.inr g), fun g => ?_⟩
        rw [nI_1]
        refine ih (j + 1) _ (by omega) (by omega) ?_
        rcases hx with ⟨rfl, hx⟩ | ⟨rfl, hx⟩
        · refine .inl ⟨by decide, fun k k1 k2 => ?_⟩
          by_cases ce : k = j
          · rw [ce]
            exact fun k' => k'.elim v' g
          · exact hx k k1 (by omega)
        · exact .inr ⟨by decide, hx⟩
    exact loop (n - 1) 1 0 (by omega) (by omega) (.inl ⟨rfl, fun k k1 k2 => absurd k2 (by omega)⟩)
  · exact cf (nle (b := 24) (by omega)) (h0 (fun k => c3 k.2.1))
theorem c_huskF (hd : 2 ≤ d) (ho : ok ws) (hw : mw I A ws) (hr : rb I A w) (hc : hmr I A ws rs) {x2 : Int32} {o4 o5 : Option Value} (h1 : ∀ i q, rs[i]? = some q → hfd rs w b = some q → ev_Bv d 154 96 [some (.ref 1033), some (.int (bz b)), some (.int x2), some (.int (nI i)), o4, o5] I A V) (h0 : hfd rs w b = none → ev_Bv d 154 96 [some (.ref 1033), some (.int (bz b)), some (.int x2), some (.int (nI rs.length)), o4, o5] I A V) : ∀ r j, j + r = rs.length → (∀ k q', k < j → rs[k]? = some q' → ¬ hit w b q') → ev_Bv d 154 12 [some (.ref 1033), some (.int (bz b)), some (.int x2), some (.int (nI j)), o4, o5] I A V := by
  obtain ⟨d, rfl⟩ : ∃ e, d = e + 1 := ⟨d - 1, by omega⟩
  have h80 := hr.2.1
  obtain ⟨r1, r2, r3⟩ := hc
  intro r
  induction r with
  | zero =>
    intro j hj hh
    have : j = rs.length := by omega
    subst this
    refine t_M_husk_12 _ _ _ _ _ ?_
    rw [r1]
    refine ct (ule (by omega)) (h0 (hfd_none (fun k q hq => hh k q ?_ hq)))
    exact (List.getElem?_eq_some_iff.mp hq).1
  | succ r ih =>
    intro j hj hh
    have hjl : j < rs.length := by omega
    have hq : rs[j]? = some rs[j] := List.getElem?_eq_getElem hjl
    generalize rs[j] = q at hq
    obtain ⟨⟨e, e1, e2⟩, w1, g1, g2, cc, _⟩ := r3 j q hq
    have nx : ¬ hit w b q → ev_Bv (d + 1) 154 90 [some (.ref 1033), some (.int (bz b)), some (.int x2), some (.int (nI j)), o4, o5] I A V := fun g => by
      refine t_M_husk_90 _ _ _ _ _ ?_
      rw [nI_1]
      refine ih (j + 1) (by omega) (fun k q' hk hq' => ?_)
      by_cases ce : k = j
      · rw [ce, hq, Option.some.injEq] at hq'
        rw [← hq']
        exact g
      · exact hh k q' (by omega) hq'
    have s46 : q.1 <:+ w → (b = true ∨ q.2.1 = false) → ev_Bv (d + 1) 154 46 [some (.ref 1033), some (.int (bz b)), some (.int x2), some (.int (nI j)), o4, o5] I A V := fun s g => by
      have fin : ∀ m, q.2.2.2.1.length = m → m ≤ 24 → ev_Bi d 153 0 [some (.ref 1033), some (.int (nI w.length - nI q.2.2.1)), some (.int (nI m)), none, none] I A (fun z3 I1 A2 => ((z3 = 0 → ev_Bv (d + 1) 154 90 [some (.ref 1033), some (.int (bz b)), some (.int x2), some (.int (nI j)), o4, o5] I1 A2 V) ∧ (¬ z3 = 0 → ev_Bv (d + 1) 154 96 [some (.ref 1033), some (.int (bz b)), some (.int x2), some (.int (nI j)), o4, o5] I1 A2 V))) := fun m hm1 hm => by
        subst hm1
        by_cases cg : q.2.2.1 ≤ w.length
        · rw [nI_sub cg]
          exact c_isGoodM (by omega) hr (by omega) hm (fun k => z1 (h1 j q hq (hfd_some hq ⟨s, g, cg, k⟩ hh))) (fun k => z0 (nx (fun k' => k k'.2.2.2)))
        · obtain ⟨e', rfl⟩ : ∃ e, d = e + 1 := ⟨d - 1, by omega⟩
          have hneg : nI w.length - nI q.2.2.1 < 0 := nI_subneg (by omega) (by omega)
          have hlt : nI w.length - nI q.2.2.1 < 1 := Int32.lt_trans hneg (by decide)
          exact t_M_isGood_0 _ _ (ct hlt (z0 (nx (fun k' => cg k'.2.2.1))))
      refine t_M_husk_46 _ _ _ _ _ ⟨vin (by omega), vin (by omega), ?_⟩
      rw [ncl, g1, hr.1]
      rcases cc with ⟨c1, c2⟩ | ⟨c, c1, c2⟩
      · rw [c1]
        exact ct rfl (fin 0 (by rw [c2]; rfl) (by omega))
      · have hk := ho.at c2
        rw [c1, ncl, (hw.2 c _ c2).1]
        exact cf nm5 ⟨vin (by omega), vin (by omega), fin _ rfl (by omega)⟩
    refine t_M_husk_12 _ _ _ _ _ ?_
    rw [r1, ncl, e1]
    refine cf (nle (by omega)) ⟨vin (by omega), c_endsWithM ho hw hr e2 (fun s => z1 ?_) (fun s => z0 (nx (fun k => s k.1)))⟩
    cases b with
    | true => exact cf (by decide) (s46 s (.inl rfl))
    | false =>
      exact ct rfl ⟨vin (by omega), fun g => s46 s (.inr (w1.mp g)), fun g => nx (fun k => by
          rcases k.2.1 with k | k
          · exact absurd k (by decide)
          · exact g (w1.mpr k))⟩
theorem c_huskY (hd : 1 ≤ d) (ho : ok ws) {c : Nat} {v : List Int32} (hi : ws[c]? = some v) (hl : u.length + v.length ≤ 80) {I0 A0 : Nat → Nat → Int32} (hw : mw I0 A0 ws) {x1 x2 x3 : Int32} (h : ∀ I' A' x5, rb I' A' (u ++ v) → fq I0 A0 I' A' → ev_Bv d 154 188 [some (.ref 1033), some (.int x1), some (.int x2), some (.int x3), some (.int (nI c)), some (.int x5)] I' A' V) : ∀ n j I A, j + n = v.length → rb I A (u ++ v.take j) → fq I0 A0 I A → ev_Bv d 154 131 [some (.ref 1033), some (.int x1), some (.int x2), some (.int x3), some (.int (nI c)), some (.int (nI j))] I A V := by
  obtain ⟨d, rfl⟩ : ∃ e, d = e + 1 := ⟨d - 1, by omega⟩
  have hk := ho.at hi
  intro n
  induction n with
  | zero =>
    intro j I A hj hr hf
    have : j = v.length := by omega
    subst this
    rw [List.take_length] at hr
    have hw1 := hw.fq hf
    refine t_M_husk_131 _ _ _ _ _ (cf nm5 ⟨vin (by omega), ?_⟩)
    rw [ncl, (hw1.2 c v hi).1]
    exact ct (ule (by omega)) (h _ _ _ hr hf)
  | succ n ih =>
    intro j I A hj hr hf
    have hw1 := hw.fq hf
    have hlen : (u ++ v.take j).length = u.length + j := by
      rw [List.length_append, List.length_take]
      omega
    have e24 : 24 * nI c = nI (24 * c) := nI_mul 24 c
    refine t_M_husk_131 _ _ _ _ _ (cf nm5 ⟨vin (by omega), ?_⟩)
    rw [ncl, (hw1.2 c v hi).1, e24, nI_add, hr.1, hlen, nI_1 (u.length + j), nI_1 j, ncl, ncl, (hw1.2 c v hi).2 j (by omega)]
    refine cf (nle (by omega)) ⟨vin (by omega), vin (by omega), ih (j + 1) _ _ (by omega) ?_ (hf.tr (fx.tr (fx.iu (by simp)) (fx.au (by simp))))⟩
    have := rb_add hr (c := v.getD j 0) (by omega)
    rw [hlen] at this
    rw [take_snoc (by omega), ← List.append_assoc]
    exact this
theorem c_huskM (hd : 2 ≤ d) (ho : ok ws) {I0 A0 : Nat → Nat → Int32} : ∀ n j w I A o3 o4 o5, j + n = 16 → mw I A ws → hmr I A ws rs → rb I A w → fq I0 A0 I A → (∀ I' A', rb I' A' (hsk rs n (decide (j = 0)) w) → fq I0 A0 I' A' → V I' A') → ev_Bv d 154 4 [some (.ref 1033), some (.int (bz (decide (j = 0)))), some (.int (nI j)), o3, o4, o5] I A V := by
  obtain ⟨d, rfl⟩ : ∃ e, d = e + 1 := ⟨d - 1, by omega⟩
  intro n
  induction n with
  | zero =>
    intro j w I A o3 o4 o5 hj hw hc hr hf h
    exact t_M_husk_4 _ _ _ _ _ (ct (ule (a := 16) (by omega)) (h _ _ hr hf))
  | succ n ih =>
    intro j w I A o3 o4 o5 hj hw hc hr hf h
    have h80 := hr.2.1
    refine t_M_husk_4 _ _ _ _ _ (cf (nle (a := 16) (by omega)) (c_huskF (by omega) ho hw hr hc (fun i q hq g => ?_) (fun g => ?_) rs.length 0 (by omega) (fun k q' hk => absurd hk (by omega))))
    · obtain ⟨⟨_, _, hgl, hg2, hg3, _⟩, _⟩ := hfd_hit g
      have hi := (List.getElem?_eq_some_iff.mp hq).1
      have h40 := hc.2.1
      obtain ⟨_, _, g1, g2, cc, _⟩ := hc.2.2 i q hq
      have eh : hsk rs (n + 1) (decide (j = 0)) w = if q.2.2.2.2 = true then hsk rs n false (hap w q) else hap w q := by rw [hsk, g]
      have hlen : (w.take (w.length - q.2.2.1)).length = w.length - q.2.2.1 := by
        rw [List.length_take]
        omega
      have r1 : rb (ev_upd I 1033 21 (nI (w.length - q.2.2.1))) A (w.take (w.length - q.2.2.1)) := rb_cut hr (by omega)
      have f1 : fq I A (ev_upd I 1033 21 (nI (w.length - q.2.2.1))) A := fx.iu (by simp)
      refine t_M_husk_96 _ _ _ _ _ ?_
      rw [hc.1, ncl, g1, hr.1, nI_sub hgl]
      refine cf (neq (by omega)) ⟨vin (by omega), vin (by omega), ?_⟩
      generalize ev_upd I 1033 21 (nI (w.length - q.2.2.1)) = I1 at r1 f1 ⊢
      have fin : ∀ I2 A2 x4 x5, rb I2 A2 (hap w q) → fq I A I2 A2 → ev_Bv (d + 1) 154 188 [some (.ref 1033), some (.int (bz (decide (j = 0)))), some (.int (nI j)), some (.int (nI i)), some (.int x4), some (.int x5)] I2 A2 V := fun I2 A2 x4 x5 r2 f2 => by
        have hc2 : hmr I2 A2 ws rs := hc.fx f2 (by decide) (by decide)
        obtain ⟨_, _, _, _, _, on2⟩ := hc2.2.2 i q hq
        refine t_M_husk_188 _ _ _ _ _ ⟨vin (by omega), ?_⟩
        rw [ncl]
        refine ⟨fun z => h _ _ ?_ (hf.tr f2), fun z => ?_⟩
        · rw [eh, on2.mp z]
          exact r2
        · have ez : q.2.2.2.2 = true := by
            cases hz : q.2.2.2.2 with
            | true => rfl
            | false => exact absurd (on2.mpr hz) z
          have := ih (j + 1) (hap w q) I2 A2 (some (.int (nI i))) (some (.int x4)) (some (.int x5)) (by omega) (hw.fq f2) hc2 r2 (hf.tr f2) (fun I3 A3 r3 f3 => h _ _ (by
            rw [eh, ez, if_pos rfl]
            rw [decide_eq_false (by omega : ¬ j + 1 = 0)] at r3
            exact r3) f3)
          rw [decide_eq_false (by omega : ¬ j + 1 = 0)] at this
          rw [nI_1]
          exact this
      rcases cc with ⟨c1, c2⟩ | ⟨c, c1, c2⟩
      · rw [c1]
        refine t_M_husk_131 _ _ _ _ _ (ct rfl (fin _ _ _ _ ?_ f1))
        rw [hap, c2, List.append_nil]
        exact r1
      · rw [c1]
        refine c_huskY (u := w.take (w.length - q.2.2.1)) (by omega) ho c2 (by rw [hlen]; omega) (hw.fq f1) (fun I2 A2 x5 r2 f2 => fin _ _ _ _ r2 (f1.tr f2)) _ 0 _ _ (Nat.zero_add _) ?_ fx.rf
        rw [List.take_zero, List.append_nil]
        exact r1
    · refine t_M_husk_96 _ _ _ _ _ ?_
      rw [hc.1]
      refine ct rfl (h _ _ ?_ hf)
      rw [hsk, g]
      exact hr
theorem c_husk (hd : 2 ≤ d) (ho : ok ws) (hw : mw I A ws) (hc : hmr I A ws rs) (hr : rb I A w) (h : ∀ I' A', rb I' A' (hsk rs 16 true w) → fq I A I' A' → V I' A') : ev_Bv d 154 0 [some (.ref 1033), none, none, none, none, none] I A V := by
  obtain ⟨d, rfl⟩ : ∃ e, d = e + 1 := ⟨d - 1, by omega⟩
  exact t_M_husk_0 (c_huskM (by omega) ho 16 0 w I A none none none (by omega) hw hc hr fx.rf h)
end CTR

/-! HUSK -/
abbrev HR : Type := List Int32 × Bool × Nat × List Int32 × Bool
abbrev vy (x : Int32) : Prop := vw x ∨ x = 121
abbrev gd (w : List Int32) (n m : Nat) : Prop := 2 ≤ n ∧ n + m ≤ 24 ∧ (vw (w.getD 0 0) ∨ (3 ≤ n ∧ ∃ k, k < n ∧ 1 ≤ k ∧ vy (w.getD k 0)))
abbrev hit (w : List Int32) (b : Bool) (q : HR) : Prop := q.1 <:+ w ∧ (b = true ∨ q.2.1 = false) ∧ q.2.2.1 ≤ w.length ∧ gd w (w.length - q.2.2.1) q.2.2.2.1.length
def hfd (rs : List HR) (w : List Int32) (b : Bool) : Option HR := rs.find? (fun q => decide (hit w b q))
theorem find_some {p : HR → Bool} : ∀ (rs : List HR) (i : Nat) (q : HR), rs[i]? = some q → p q = true → (∀ k q', k < i → rs[k]? = some q' → p q' = false) → rs.find? p = some q
  | [], i, q, h, _, _ => by simp at h
  | r :: rs, 0, q, h, hp, _ => by
    have : r = q := by simpa using h
    subst this
    rw [List.find?_cons, hp]
  | r :: rs, i + 1, q, h, hp, hk => by
    have h0 := hk 0 r (by omega) rfl
    rw [List.find?_cons, h0]
    exact find_some rs i q (by simpa using h) hp (fun k q' hk' hq => hk (k + 1) q' (by omega) (by simpa using hq))
theorem find_none {p : HR → Bool} {rs : List HR} (h : ∀ (k : Nat) (q : HR), rs[k]? = some q → p q = false) : rs.find? p = none := by
  rw [List.find?_eq_none]
  intro q hq
  obtain ⟨k, hk⟩ := List.getElem?_of_mem hq
  rw [h k q hk]
  decide
theorem hfd_some {rs : List HR} {w : List Int32} {b : Bool} {i : Nat} {q : HR} (h : rs[i]? = some q) (hh : hit w b q) (hk : ∀ k q', k < i → rs[k]? = some q' → ¬ hit w b q') : hfd rs w b = some q :=
  find_some rs i q h (decide_eq_true hh) (fun k q' h1 h2 => decide_eq_false (hk k q' h1 h2))
theorem hfd_none {rs : List HR} {w : List Int32} {b : Bool} (h : ∀ (k : Nat) (q : HR), rs[k]? = some q → ¬ hit w b q) : hfd rs w b = none :=
  find_none (fun k q h1 => decide_eq_false (h k q h1))
theorem hfd_hit {rs : List HR} {w : List Int32} {b : Bool} {q : HR} (h : hfd rs w b = some q) : hit w b q ∧ q ∈ rs :=
  have h' : rs.find? (fun q => decide (hit w b q)) = some q := h
  have h2 := List.find?_some h'
  ⟨of_decide_eq_true h2, List.mem_of_find?_eq_some h'⟩
abbrev hap (w : List Int32) (q : HR) : List Int32 := w.take (w.length - q.2.2.1) ++ q.2.2.2.1
def hsk (rs : List HR) : Nat → Bool → List Int32 → List Int32
  | 0, _, w => w
  | n + 1, b, w => match hfd rs w b with
    | none => w
    | some q => if q.2.2.2.2 = true then hsk rs n false (hap w q) else hap w q
def hrw (ws : List (List Int32)) (A : Nat → Nat → Int32) (a1 a2 a3 a4 a5 i : Nat) (q : HR) : Prop :=
  (∃ e, A a1 i = nI e ∧ ws[e]? = some q.1) ∧ (A a2 i = 0 ↔ q.2.1 = false) ∧ A a3 i = nI q.2.2.1 ∧ q.2.2.1 ≤ 8 ∧ ((A a4 i = -5 ∧ q.2.2.2.1 = []) ∨ ∃ c, A a4 i = nI c ∧ ws[c]? = some q.2.2.2.1) ∧ (A a5 i = 0 ↔ q.2.2.2.2 = false)
def hcr (I A : Nat → Nat → Int32) (ws : List (List Int32)) (rs : List HR) : Prop := I 1012 5 = nI rs.length ∧ rs.length ≤ 40 ∧ ∀ i q, rs[i]? = some q → hrw ws A 1013 1014 1015 1016 1017 i q
def hmr (I A : Nat → Nat → Int32) (ws : List (List Int32)) (rs : List HR) : Prop := I 1033 14 = nI rs.length ∧ rs.length ≤ 40 ∧ ∀ i q, rs[i]? = some q → hrw ws A 1040 1041 1042 1043 1044 i q
theorem hrw.fx {S : List (Nat × Nat)} {T : List Nat} {I A I' A' : Nat → Nat → Int32} {ws : List (List Int32)} {a1 a2 a3 a4 a5 i : Nat} {q : HR} (h : hrw ws A a1 a2 a3 a4 a5 i q) (g : fx S T I A I' A') (hT : ∀ p ∈ [a1, a2, a3, a4, a5], p ∉ T) : hrw ws A' a1 a2 a3 a4 a5 i q := by
  unfold hrw
  rw [g.2 a1 i (hT _ (by simp)), g.2 a2 i (hT _ (by simp)), g.2 a3 i (hT _ (by simp)), g.2 a4 i (hT _ (by simp)), g.2 a5 i (hT _ (by simp))]
  exact h
theorem hcr.fx {S : List (Nat × Nat)} {T : List Nat} {I A I' A' : Nat → Nat → Int32} {ws : List (List Int32)} {rs : List HR} (h : hcr I A ws rs) (g : fx S T I A I' A') (hS : (1012, 5) ∉ S) (hT : ∀ p ∈ [1013, 1014, 1015, 1016, 1017], p ∉ T) : hcr I' A' ws rs :=
  ⟨(g.1 _ _ hS).trans h.1, h.2.1, fun i q hi => (h.2.2 i q hi).fx g hT⟩
theorem hmr.fx {S : List (Nat × Nat)} {T : List Nat} {I A I' A' : Nat → Nat → Int32} {ws : List (List Int32)} {rs : List HR} (h : hmr I A ws rs) (g : fx S T I A I' A') (hS : (1033, 14) ∉ S) (hT : ∀ p ∈ [1040, 1041, 1042, 1043, 1044], p ∉ T) : hmr I' A' ws rs :=
  ⟨(g.1 _ _ hS).trans h.1, h.2.1, fun i q hi => (h.2.2 i q hi).fx g hT⟩
theorem hcr.fr {L : Nat} {I A I' A' : Nat → Nat → Int32} {ws : List (List Int32)} {rs : List HR} (h : hcr I A ws rs) (g : fr L I A I' A') (hL : ev_isL L) : hcr I' A' ws rs := by
  unfold ev_isL at hL
  refine h.fx g (by simp) (fun p hp => ?_)
  simp at hp ⊢
  omega
theorem ex_list {P : Nat → HR → Prop} : ∀ r : Nat, (∀ i, i < r → ∃ q, P i q) → ∃ rs : List HR, rs.length = r ∧ ∀ i q, rs[i]? = some q → P i q
  | 0, _ => ⟨[], rfl, by simp⟩
  | r + 1, h => by
    obtain ⟨rs, hl, hp⟩ := ex_list r (fun i hi => h i (by omega))
    obtain ⟨q, hq⟩ := h r (by omega)
    refine ⟨rs ++ [q], by simp [hl], fun i q' hi => ?_⟩
    by_cases c : i < rs.length
    · rw [List.getElem?_append_left c] at hi
      exact hp i q' hi
    · rw [List.getElem?_append_right (by omega)] at hi
      have h1 := (List.getElem?_eq_some_iff.mp hi).1
      simp at h1
      have h2 : i - rs.length = 0 := by omega
      rw [h2] at hi
      have h3 : q = q' := by simpa using hi
      have h4 : i = r := by omega
      rw [← h3, h4]
      exact hq
theorem S6.rows {I A : Nat → Nat → Int32} {ws : List (List Int32)} {r : Nat} (h : S6 I A ws r) : ∃ rs, hcr I A ws rs ∧ hmr I A ws rs := by
  obtain ⟨rs, hl, hp⟩ := ex_list (P := fun i q => hrw ws A 1013 1014 1015 1016 1017 i q ∧ hrw ws A 1040 1041 1042 1043 1044 i q) r (fun i hi => by
    obtain ⟨a1, a2, a3, a4, ⟨g, hg, a5⟩, a6, a7, a8⟩ := h.2.2.2 i hi
    obtain ⟨e, we, h1, h2⟩ := a2
    have hb : ∀ x : Int32, ∃ b : Bool, (x = 0 ↔ b = false) := fun x => by
      by_cases c : x = 0
      · exact ⟨false, by simp [c]⟩
      · exact ⟨true, by simp [c]⟩
    obtain ⟨b1, hb1⟩ := hb (A 1014 i)
    obtain ⟨b2, hb2⟩ := hb (A 1017 i)
    have hc : ∃ c : List Int32, (A 1016 i = -5 ∧ c = []) ∨ ∃ k, A 1016 i = nI k ∧ ws[k]? = some c := by
      rcases a7 with a7 | ⟨k, c, h3, h4⟩
      · exact ⟨[], .inl ⟨a7, rfl⟩⟩
      · exact ⟨c, .inr ⟨k, h3, h4⟩⟩
    obtain ⟨c, hc⟩ := hc
    refine ⟨(we, b1, g, c, b2), ?_, ?_⟩
    · exact ⟨⟨e, h1, h2⟩, hb1, a5, hg, hc, hb2⟩
    · unfold hrw
      rw [a1, a3, a4, a6, a8]
      exact ⟨⟨e, h1, h2⟩, hb1, a5, hg, hc, hb2⟩)
  exact ⟨rs, ⟨by rw [hl]; exact h.2.1, by rw [hl]; exact h.1, fun i q hi => (hp i q hi).1⟩, ⟨by rw [hl]; exact h.2.2.1, by rw [hl]; exact h.1, fun i q hi => (hp i q hi).2⟩⟩
section CTR
variable {d : Nat} {I A : Nat → Nat → Int32} {K : Int32 → (Nat → Nat → Int32) → (Nat → Nat → Int32) → Prop} {V : (Nat → Nat → Int32) → (Nat → Nat → Int32) → Prop} {L n m i : Nat} {u w : List Int32} {ws : List (List Int32)} {rs : List HR} {b : Bool}
theorem c_isGood (hd : 1 ≤ d) (hL : ev_isL L) (hb : bu I A L w) (hn : n ≤ w.length) (hm : m ≤ 24) (h1 : gd w n m → K 1 I A) (h0 : ¬ gd w n m → K 0 I A) : ev_Bi d 20 0 [some (.ref L), some (.int (nI n)), some (.int (nI m)), none] I A K := by
  obtain ⟨d, rfl⟩ : ∃ e, d = e + 1 := ⟨d - 1, by omega⟩
  have h24 := hb.2.1
  refine t_H_isGood_0 hL _ _ ?_
  by_cases c2 : n < 2
  · exact ct (ult (b := 2) c2) (h0 (fun k => absurd k.1 (by omega)))
  refine cf (nlt (b := 2) (by omega)) ?_
  rw [nI_add]
  by_cases c3 : n + m ≤ 24
  · refine ct (ule (b := 24) c3) (c_at (i := 0) hL hb (by omega) (c_isVowel (fun v => z1 (h1 ⟨by omega, c3, .inl v⟩)) (fun v => z0 ?_)))
    have loop : ∀ r j, j + r = n → 1 ≤ j → (∀ k, 1 ≤ k → k < j → 3 ≤ n → ¬ vy (w.getD k 0)) → ev_Bi (d + 1) 20 30 [some (.ref L), some (.int (nI n)), some (.int (nI m)), some (.int (nI j))] I A K := by
      intro r
      induction r with
      | zero =>
        intro j hj h1' hh
        refine t_H_isGood_30 hL _ _ _ (ct (ule (by omega)) (h0 ?_))
        rintro ⟨_, _, k | ⟨k3, k, k4, k5, k6⟩⟩
        · exact v k
        · exact hh k k5 (by omega) k3 k6
      | succ r ih =>
        intro j hj h1' hh
        have nx : (3 ≤ n → ¬ vy (w.getD j 0)) → ev_Bi (d + 1) 20 63 [some (.ref L), some (.int (nI n)), some (.int (nI m)), some (.int (nI j))] I A K := fun g => by
          refine t_H_isGood_63 hL _ _ _ ?_
          rw [nI_1]
          refine ih (j + 1) (by omega) (by omega) (fun k k1 k2 k3 => ?_)
          by_cases ce : k = j
          · rw [ce]
            exact g k3
          · exact hh k k1 (by omega) k3
        refine t_H_isGood_30 hL _ _ _ (cf (nle (by omega)) ?_)
        by_cases cn : n < 3
        · exact ct (ult (b := 3) cn) (nx (fun k => absurd k (by omega)))
        · have yes : vy (w.getD j 0) → K 1 I A := fun g => h1 ⟨by omega, c3, .inr ⟨by omega, j, by omega, h1', g⟩⟩
          exact cf (nlt (b := 3) (by omega)) (c_at hL hb (by omega) (c_isVowel (fun v' => z1 (yes (.inl v'))) (fun v' => z0 (c_at hL hb (by omega) ⟨fun g => yes (.inr g), fun g => nx (fun _ k => k.elim v' g)⟩))))
    exact loop (n - 1) 1 (by omega) (by omega) (fun k k1 k2 => absurd k2 (by omega))
  · exact cf (nle (b := 24) (by omega)) (h0 (fun k => c3 k.2.1))
theorem c_findRow (hd : 3 ≤ d) {x : Int32} (hx : x = bz b) (hL : ev_isL L) (hw : cw I A ws) (ho : ok ws) (hb : bu I A L w) (hc : hcr I A ws rs) (h1 : ∀ i q, rs[i]? = some q → hfd rs w b = some q → K (nI i) I A) (h0 : hfd rs w b = none → K (-5) I A) : ev_Bi d 19 0 [some (.ref 1012), some (.ref L), some (.int x), some (.ref 1003), none] I A K := by
  subst hx
  obtain ⟨d, rfl⟩ : ∃ e, d = e + 1 := ⟨d - 1, by omega⟩
  have h24 := hb.2.1
  obtain ⟨r1, r2, r3⟩ := hc
  have loop : ∀ r j, j + r = rs.length → (∀ k q', k < j → rs[k]? = some q' → ¬ hit w b q') → ev_Bi (d + 1) 19 3 [some (.ref 1012), some (.ref L), some (.int (bz b)), some (.ref 1003), some (.int (nI j))] I A K := by
    intro r
    induction r with
    | zero =>
      intro j hj hh
      refine t_H_findRow_3 hL _ _ ?_
      rw [r1]
      refine ct (ule (by omega)) (h0 (hfd_none (fun k q hq => hh k q ?_ hq)))
      have := (List.getElem?_eq_some_iff.mp hq).1
      omega
    | succ r ih =>
      intro j hj hh
      have hjl : j < rs.length := by omega
      have hq : rs[j]? = some rs[j] := List.getElem?_eq_getElem hjl
      generalize rs[j] = q at hq
      obtain ⟨⟨e, e1, e2⟩, w1, g1, g2, cc, _⟩ := r3 j q hq
      have nx : ¬ hit w b q → ev_Bi (d + 1) 19 74 [some (.ref 1012), some (.ref L), some (.int (bz b)), some (.ref 1003), some (.int (nI j))] I A K := fun g => by
        refine t_H_findRow_74 hL _ _ ?_
        rw [nI_1]
        refine ih (j + 1) (by omega) (fun k q' hk hq' => ?_)
        by_cases ce : k = j
        · rw [ce, hq, Option.some.injEq] at hq'
          rw [← hq']
          exact g
        · exact hh k q' (by omega) hq'
      have s26 : (b = true ∨ q.2.1 = false) → ev_Bi (d + 1) 19 26 [some (.ref 1012), some (.ref L), some (.int (bz b)), some (.ref 1003), some (.int (nI j))] I A K := fun g => by
        refine t_H_findRow_26 hL _ _ ⟨vin (by omega), ?_⟩
        rw [ncl, e1]
        refine c_standsBehind (by omega) hL hw ho e2 hb (fun s => z1 (c_size hL hb ?_)) (fun s => z0 (nx (fun k => s k.1)))
        rw [g1]
        refine ⟨vin (by omega), vin (by omega), ?_⟩
        have fin : ∀ m, q.2.2.2.1.length = m → m ≤ 24 → ev_Bi d 20 0 [some (.ref L), some (.int (nI w.length - nI q.2.2.1)), some (.int (nI m)), none] I A (fun z15 I13 A14 => ((z15 = 0 → ev_Bi (d + 1) 19 74 [some (.ref 1012), some (.ref L), some (.int (bz b)), some (.ref 1003), some (.int (nI j))] I13 A14 K) ∧ (¬ z15 = 0 → K (nI j) I13 A14))) := fun m hm1 hm => by
          subst hm1
          by_cases cg : q.2.2.1 ≤ w.length
          · rw [nI_sub cg]
            exact c_isGood (by omega) hL hb (by omega) hm (fun k => z1 (h1 j q hq (hfd_some hq ⟨s, g, cg, k⟩ hh))) (fun k => z0 (nx (fun k' => k k'.2.2.2)))
          · obtain ⟨e', rfl⟩ : ∃ e, d = e + 1 := ⟨d - 1, by omega⟩
            have hneg : nI w.length - nI q.2.2.1 < 0 := nI_subneg (by omega) (by omega)
            have hlt : nI w.length - nI q.2.2.1 < 2 := Int32.lt_trans hneg (by decide)
            exact t_H_isGood_0 hL _ _ (ct hlt (z0 (nx (fun k' => cg k'.2.2.1))))
        rcases cc with ⟨c1, c2⟩ | ⟨c, c1, c2⟩
        · rw [c1]
          exact c_sizeOf_no (by omega) hw ho (kn5 ho) (fin 0 (by rw [c2]; rfl) (by omega))
        · rw [c1]
          have hk := ho.at c2
          exact c_sizeOf (by omega) hw ho c2 (fin _ rfl (by omega))
      refine t_H_findRow_3 hL _ _ ?_
      rw [r1, ncl]
      refine cf (nle (by omega)) ?_
      cases b with
      | true => exact cf (by decide) (s26 (.inl rfl))
      | false => exact ct rfl ⟨vin (by omega), fun g => s26 (.inr (w1.mp g)), fun g => nx (fun k => by
          rcases k.2.1 with k | k
          · exact absurd k (by decide)
          · exact g (w1.mpr k))⟩
  exact t_H_findRow_0 hL _ (loop rs.length 0 (by omega) (fun k q' hk => absurd hk (by omega)))
theorem c_huskC (hd : 4 ≤ d) (hL : ev_isL L) (ho : ok ws) {I0 A0 : Nat → Nat → Int32} : ∀ n j w I A o4, j + n = 16 → cw I A ws → hcr I A ws rs → bu I A L w → fr L I0 A0 I A → (∀ I' A', bu I' A' L (hsk rs n (decide (j = 0)) w) → fr L I0 A0 I' A' → V I' A') → ev_Bv d 18 2 [some (.ref 1012), some (.ref L), some (.ref 1003), some (.int (nI j)), o4] I A V := by
  obtain ⟨d, rfl⟩ : ∃ e, d = e + 1 := ⟨d - 1, by omega⟩
  intro n
  induction n with
  | zero =>
    intro j w I A o4 hj hw hc hb hf h
    exact t_H_run_2 hL _ _ (ct (ule (a := 16) (by omega)) (h _ _ hb hf))
  | succ n ih =>
    intro j w I A o4 hj hw hc hb hf h
    have h24 := hb.2.1
    have none' : hfd rs w (decide (j = 0)) = none → V I A := fun g => by
      refine h _ _ ?_ hf
      rw [hsk, g]
      exact hb
    have some' : ∀ i q o4, rs[i]? = some q → hfd rs w (decide (j = 0)) = some q → (((nI i < 0 → V I A) ∧ (¬ nI i < 0 → ((nI i < (I 1012 5) → ev_Bi d 30 0 [some (.ref L)] I A (fun z7 I5 A6 => (vp_in (nI i) 40 ∧ ev_Bv d 34 0 [some (.ref L), some (.int (z7 - (A6 1015 (nI i).toNatClampNeg)))] I5 A6 (fun I9 A10 => (vp_in (nI i) 40 ∧ ev_Bv d 82 0 [some (.ref 1003), some (.int (A10 1016 (nI i).toNatClampNeg)), some (.int 0), some (.ref L), none] I9 A10 (fun I12 A13 => (vp_in (nI i) 40 ∧ (((A13 1017 (nI i).toNatClampNeg) = 0 → V I12 A13) ∧ (¬ (A13 1017 (nI i).toNatClampNeg) = 0 → ev_Bv (d + 1) 18 2 [some (.ref 1012), some (.ref L), some (.ref 1003), some (.int (nI j + 1)), o4] I12 A13 V))))))))) ∧ (¬ nI i < (I 1012 5) → V I A))))) := fun i q o4 hq g => by
      obtain ⟨⟨_, _, hgl, hg2, hg3, _⟩, _⟩ := hfd_hit g
      have hi := (List.getElem?_eq_some_iff.mp hq).1
      have hr := hc.2.1
      have hv : vp_in (nI i) 40 := vin (by omega)
      obtain ⟨_, _, g1, g2, cc, on⟩ := hc.2.2 i q hq
      have eh : hsk rs (n + 1) (decide (j = 0)) w = if q.2.2.2.2 = true then hsk rs n false (hap w q) else hap w q := by rw [hsk, g]
      refine cf npo ?_
      rw [hc.1, ncl]
      refine ct (ult (by omega)) (c_size hL hb ⟨hv, ?_⟩)
      rw [g1, nI_sub hgl]
      refine c_shorten hL hb (by omega) (fun I1 A1 b1 f1 => ⟨hv, ?_⟩)
      have hw1 := hw.fr f1 hL
      have hc1 := hc.fr f1 hL
      have hlen : (w.take (w.length - q.2.2.1)).length = w.length - q.2.2.1 := by
        rw [List.length_take]
        omega
      have fin : ∀ I2 A2, bu I2 A2 L (hap w q) → fr L I A I2 A2 → cw I2 A2 ws → hcr I2 A2 ws rs → (vp_in (nI i) 40 ∧ (((A2 1017 i) = 0 → V I2 A2) ∧ (¬ (A2 1017 i) = 0 → ev_Bv (d + 1) 18 2 [some (.ref 1012), some (.ref L), some (.ref 1003), some (.int (nI j + 1)), o4] I2 A2 V))) := fun I2 A2 b2 f2 hw2 hc2 => by
        obtain ⟨_, _, _, _, _, on2⟩ := hc2.2.2 i q hq
        refine ⟨hv, fun z => h _ _ ?_ (hf.tr f2), fun z => ?_⟩
        · rw [eh, on2.mp z]
          exact b2
        · have ez : q.2.2.2.2 = true := by
            cases hz : q.2.2.2.2 with
            | true => rfl
            | false => exact absurd (on2.mpr hz) z
          rw [nI_1]
          refine ih (j + 1) (hap w q) I2 A2 _ (by omega) hw2 hc2 b2 (hf.tr f2) (fun I3 A3 b3 f3 => h _ _ ?_ f3)
          rw [eh, ez, if_pos rfl]
          rw [decide_eq_false (by omega : ¬ j + 1 = 0)] at b3
          exact b3
      obtain ⟨_, _, _, _, cc1, _⟩ := hc1.2.2 i q hq
      rcases cc1 with ⟨c1, c2⟩ | ⟨c, c1, c2⟩
      · rw [c1]
        refine c_addTo_no (by omega) hL hw1 ho (kn5 ho) (fin _ _ ?_ f1 hw1 hc1)
        rw [hap, c2, List.append_nil]
        exact b1
      · rw [c1]
        refine c_addTo (f := 0) (by omega) hL hw1 ho c2 (by omega) b1 (by rw [hlen]; omega) (fun I2 A2 b2 f2 => fin _ _ ?_ (f1.tr f2) (hw1.fr f2 hL) (hc1.fr f2 hL))
        rw [List.drop_zero] at b2
        exact b2
    refine t_H_run_2 hL _ _ (cf (nle (a := 16) (by omega)) ?_)
    by_cases c0 : j = 0
    · have eb : (1 : Int32) = bz (decide (j = 0)) := by rw [decide_eq_true c0]; rfl
      exact ct (by rw [c0]; rfl) (c_findRow (by omega) eb hL hw ho hb hc (fun i q hq g => some' i q _ hq g) (fun g => ct (by decide) (none' g)))
    · have eb : (0 : Int32) = bz (decide (j = 0)) := by rw [decide_eq_false c0]; rfl
      exact cf (neq (b := 0) c0) (c_findRow (by omega) eb hL hw ho hb hc (fun i q hq g => some' i q _ hq g) (fun g => ct (by decide) (none' g)))
theorem c_huskRun (hd : 4 ≤ d) (hL : ev_isL L) (ho : ok ws) (hw : cw I A ws) (hc : hcr I A ws rs) (hb : bu I A L w) (h : ∀ I' A', bu I' A' L (hsk rs 16 true w) → fr L I A I' A' → V I' A') : ev_Bv d 18 0 [some (.ref 1012), some (.ref L), some (.ref 1003), none, none] I A V := by
  obtain ⟨d, rfl⟩ : ∃ e, d = e + 1 := ⟨d - 1, by omega⟩
  exact t_H_run_0 hL (c_huskC (by omega) hL ho 16 0 w I A none (by omega) hw hc hb fr.rf h)
end CTR

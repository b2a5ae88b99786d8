/-! BASES -/
abbrev AF : Type := Bool × List Int32 × List Int32
abbrev aat (w : List Int32) (q : AF) : Nat := if q.1 = true then w.length - q.2.1.length else 0
def chg (w : List Int32) (q : AF) : Option (List Int32) :=
  if q.2.1.length < w.length ∧ sa w (aat w q) q.2.1 ∧ w.length - q.2.1.length + q.2.2.length ≤ 24 then
    some (if q.1 = true then w.take (w.length - q.2.1.length) ++ q.2.2 else q.2.2 ++ w.drop q.2.1.length) else none
def bsa (ws : List (List Int32)) (me : Nat → Bool) (w : List Int32) (q : AF) : Option Nat := match chg w q with
  | none => none
  | some v => match fi ws v with
    | none => none
    | some k => if me k = true then some k else none
def ad (acc : List Nat) (r : Option Nat) : List Nat := match r with
  | none => acc
  | some k => if k ∈ acc then acc else acc ++ [k]
theorem ad_len {acc : List Nat} {r : Option Nat} : (ad acc r).length ≤ acc.length + 1 := by
  unfold ad
  split
  · omega
  · split
    · omega
    · simp
def bac (ws : List (List Int32)) (me : Nat → Bool) (w : List Int32) (q : List AF) (i : Nat) : List Nat := q.foldl (fun acc a => ad acc (bsa ws me w a)) (if me i = true then [i] else [])
def arw (ws : List (List Int32)) (A : Nat → Nat → Int32) (a1 a2 a3 i : Nat) (q : AF) : Prop :=
  (A a1 i = 0 ↔ q.1 = false) ∧ (∃ e, A a2 i = nI e ∧ ws[e]? = some q.2.1) ∧ ((A a3 i = -5 ∧ q.2.2 = []) ∨ ∃ c, A a3 i = nI c ∧ ws[c]? = some q.2.2)
def acr (I A : Nat → Nat → Int32) (ws : List (List Int32)) (as : List AF) : Prop := I 1018 3 = nI as.length ∧ as.length ≤ 20 ∧ ∀ i q, as[i]? = some q → arw ws A 1019 1020 1021 i q
def amr (I A : Nat → Nat → Int32) (ws : List (List Int32)) (as : List AF) : Prop := I 1033 18 = nI as.length ∧ as.length ≤ 20 ∧ ∀ i q, as[i]? = some q → arw ws A 1045 1046 1047 i q
theorem arw.fx {S : List (Nat × Nat)} {T : List Nat} {I A I' A' : Nat → Nat → Int32} {ws : List (List Int32)} {a1 a2 a3 i : Nat} {q : AF} (h : arw ws A a1 a2 a3 i q) (g : fx S T I A I' A') (hT : ∀ p ∈ [a1, a2, a3], p ∉ T) : arw ws A' a1 a2 a3 i q := by
  unfold arw
  rw [g.2 a1 i (hT _ (by simp)), g.2 a2 i (hT _ (by simp)), g.2 a3 i (hT _ (by simp))]
  exact h
theorem acr.fx {S : List (Nat × Nat)} {T : List Nat} {I A I' A' : Nat → Nat → Int32} {ws : List (List Int32)} {as : List AF} (h : acr I A ws as) (g : fx S T I A I' A') (hS : (1018, 3) ∉ S) (hT : ∀ p ∈ [1019, 1020, 1021], p ∉ T) : acr I' A' ws as :=
  ⟨(g.1 _ _ hS).trans h.1, h.2.1, fun i q hi => (h.2.2 i q hi).fx g hT⟩
theorem amr.fx {S : List (Nat × Nat)} {T : List Nat} {I A I' A' : Nat → Nat → Int32} {ws : List (List Int32)} {as : List AF} (h : amr I A ws as) (g : fx S T I A I' A') (hS : (1033, 18) ∉ S) (hT : ∀ p ∈ [1045, 1046, 1047], p ∉ T) : amr I' A' ws as :=
  ⟨(g.1 _ _ hS).trans h.1, h.2.1, fun i q hi => (h.2.2 i q hi).fx g hT⟩
theorem acr.fr {L : Nat} {I A I' A' : Nat → Nat → Int32} {ws : List (List Int32)} {as : List AF} (h : acr I A ws as) (g : fr L I A I' A') (hL : ev_isL L) : acr I' A' ws as := by
  unfold ev_isL at hL
  refine h.fx g (by simp) (fun p hp => ?_)
  simp at hp ⊢
  omega
theorem ex_lista {P : Nat → AF → Prop} : ∀ r : Nat, (∀ i, i < r → ∃ q, P i q) → ∃ rs : List AF, rs.length = r ∧ ∀ i q, rs[i]? = some q → P i q
  | 0, _ => ⟨[], rfl, by simp⟩
  | r + 1, h => by
    obtain ⟨rs, hl, hp⟩ := ex_lista r (fun i hi => h i (by omega))
    obtain ⟨q, hq⟩ := h r (by omega)
    refine ⟨rs ++ [q], by simp [hl], fun i q' hi => ?_⟩
    by_cases c : i < rs.length
    · rw [List.getElem?_append_left c] at hi
      exact hp i q' hi
    · rw [List.getElem?_append_right (by omega)] at hi
      have h1 := (List.getElem?_eq_some_iff.mp hi).1
      simp at h1
      have h2 : i - rs.length = 0 := by omega
      rw [h2] at hi
      have h3 : q = q' := by simpa using hi
      have h4 : i = r := by omega
      rw [← h3, h4]
      exact hq
theorem S7.rows {I A : Nat → Nat → Int32} {ws : List (List Int32)} {r : Nat} (h : S7 I A ws r) : ∃ as, acr I A ws as ∧ amr I A ws as := by
  obtain ⟨rs, hl, hp⟩ := ex_lista (P := fun i q => arw ws A 1019 1020 1021 i q ∧ arw ws A 1045 1046 1047 i q) r (fun i hi => by
    obtain ⟨a1, a2, a3, a4, a5⟩ := h.2.2.2 i hi
    obtain ⟨e, we, h1, h2⟩ := a3
    obtain ⟨b1, hb1⟩ := bool_of (x := A 1019 i)
    have hc : ∃ c : List Int32, (A 1021 i = -5 ∧ c = []) ∨ ∃ k, A 1021 i = nI k ∧ ws[k]? = some c := by
      rcases a5 with a5 | ⟨k, c, h3, h4⟩
      · exact ⟨[], .inl ⟨a5, rfl⟩⟩
      · exact ⟨c, .inr ⟨k, h3, h4⟩⟩
    obtain ⟨c, hc⟩ := hc
    refine ⟨(b1, we, c), ?_, ?_⟩
    · exact ⟨hb1, ⟨e, h1, h2⟩, hc⟩
    · unfold arw
      rw [a1, a2, a4]
      exact ⟨hb1, ⟨e, h1, h2⟩, hc⟩)
  exact ⟨rs, ⟨by rw [hl]; exact h.2.1, by rw [hl]; exact h.1, fun i q hi => (hp i q hi).1⟩, ⟨by rw [hl]; exact h.2.2.1, by rw [hl]; exact h.1, fun i q hi => (hp i q hi).2⟩⟩
/-- what has been found, in the class -/
def fb (I A : Nat → Nat → Int32) (acc : List Nat) : Prop := I 1018 5 = nI acc.length ∧ ∀ j k, acc[j]? = some k → k < 150 ∧ A 1022 j = nI k
def mec (A : Nat → Nat → Int32) (ws : List (List Int32)) (me : Nat → Bool) : Prop := ∀ k, k < ws.length → (A 1007 (k * 3 + 2) = 0 ↔ me k = false)
def mem (A : Nat → Nat → Int32) (ws : List (List Int32)) (me : Nat → Bool) : Prop := ∀ k, k < ws.length → ((A 1038 k &&& 4) = 0 ↔ me k = false)
theorem S4.members {A : Nat → Nat → Int32} {ws : List (List Int32)} (h : S4 A ws) : ∃ me, mec A ws me ∧ mem A ws me := by
  refine ⟨fun k => !decide (A 1007 (k * 3 + 2) = 0), fun k hk => by simp, fun k hk => ?_⟩
  refine Iff.trans (mark_get (m := 2) h hk (by omega)) ?_
  simp
theorem not_mem_get {acc : List Nat} {k : Nat} (h : ∀ i, i < acc.length → acc[i]? ≠ some k) : k ∉ acc := fun c => by
  obtain ⟨i, hi⟩ := List.getElem?_of_mem c
  exact h i (List.getElem?_eq_some_iff.mp hi).1 hi
section CTR
variable {d : Nat} {I A : Nat → Nat → Int32} {K : Int32 → (Nat → Nat → Int32) → (Nat → Nat → Int32) → Prop} {V : (Nat → Nat → Int32) → (Nat → Nat → Int32) → Prop} {L i k : Nat} {u w : List Int32} {ws : List (List Int32)} {me : Nat → Bool} {acc : List Nat} {as : List AF}
theorem c_noteX (hd : 2 ≤ d) (hw : cw I A ws) (ho : ok ws) (hf : fb I A acc) (h20 : acc.length ≤ 20) (hk : ws[k]? = some w) (hm : mec A ws me) (h : ∀ I' A', fb I' A' (ad acc (if me k = true then some k else none)) → fx [(1018, 5)] [1022] I A I' A' → V I' A') : ev_Bv d 5 0 [some (.ref 1018), some (.int (nI k)), some (.ref 1003), none] I A V := by
  obtain ⟨d, rfl⟩ : ∃ e, d = e + 1 := ⟨d - 1, by omega⟩
  have hk' := ho.at hk
  refine t_B_note_0 _ (c_isMarked (m := 2) (by omega) hw ho (by omega) hk (fun g => z1 ?_) (fun g => z0 (h _ _ ?_ fx.rf)))
  · have eme : me k = true := by
      cases hz : me k with
      | true => rfl
      | false => exact absurd ((hm k hk'.2.1).mpr hz) g
    rw [if_pos eme] at h
    have loop : ∀ r j, j + r = acc.length → (∀ q, q < j → acc[q]? ≠ some k) → ev_Bv (d + 1) 5 12 [some (.ref 1018), some (.int (nI k)), some (.ref 1003), some (.int (nI j))] I A V := by
      intro r
      induction r with
      | zero =>
        intro j hj hh
        refine t_B_note_12 _ _ ?_
        rw [hf.1, nI_1, ncl]
        refine ct (ule (by omega)) (cf (nle (a := 21) (by omega)) ⟨vin (by omega), h _ _ ?_ (fx.tr (fx.iu (by simp)) (fx.au (by simp)))⟩)
        have hn : k ∉ acc := not_mem_get (fun q hq => hh q (by omega))
        have ea : ad acc (some k) = acc ++ [k] := if_neg hn
        rw [ea]
        refine ⟨by rw [ev_upd_eq]; simp, fun q k' hq => ?_⟩
        rw [ev_upd_at]
        by_cases cq : q = acc.length
        · rw [if_pos cq]
          rw [cq, List.getElem?_append_right (by omega), Nat.sub_self] at hq
          have : k = k' := by simpa using hq
          rw [← this]
          exact ⟨by omega, rfl⟩
        · rw [if_neg cq]
          have hql := (List.getElem?_eq_some_iff.mp hq).1
          simp at hql
          rw [List.getElem?_append_left (by omega)] at hq
          exact hf.2 q k' hq
      | succ r ih =>
        intro j hj hh
        have hjl : j < acc.length := by omega
        have hq : acc[j]? = some acc[j] := List.getElem?_eq_getElem hjl
        generalize acc[j] = k' at hq
        obtain ⟨a1, a2⟩ := hf.2 j k' hq
        refine t_B_note_12 _ _ ?_
        rw [hf.1, ncl (a := j), a2]
        refine cf (nle (by omega)) ⟨vin (by omega), fun g => h _ _ ?_ fx.rf, fun g => ?_⟩
        · have e : k' = k := (nI_eq (by omega) (by omega)).mp g
          have ea : ad acc (some k) = acc := if_pos (by rw [← e]; exact List.mem_of_getElem? hq)
          rw [ea]
          exact hf
        · rw [nI_1]
          refine ih (j + 1) (by omega) (fun q hq' => ?_)
          by_cases ce : q = j
          · rw [ce, hq]
            intro c
            rw [Option.some.injEq] at c
            exact g (by rw [c])
          · exact hh q (by omega)
    exact loop acc.length 0 (by omega) (fun q hq => absurd hq (by omega))
  · have eme : me k = false := (hm k hk'.2.1).mp g
    rw [eme]
    exact hf
theorem c_noteN (hd : 2 ≤ d) (hw : cw I A ws) (ho : ok ws) {x : Int32} (hx : ¬ kn ws x) (h : V I A) : ev_Bv d 5 0 [some (.ref 1018), some (.int x), some (.ref 1003), none] I A V := by
  obtain ⟨d, rfl⟩ : ∃ e, d = e + 1 := ⟨d - 1, by omega⟩
  exact t_B_note_0 _ (c_isMarked_no (m := 2) (by omega) hw ho (by omega) hx (z0 h))
theorem c_change (hd : 3 ≤ d) (hL : ev_isL L) (hw : cw I A ws) (ho : ok ws) (hc : acr I A ws as) (hb : bu I A L u) (hi : ws[i]? = some w) {a : Nat} {q : AF} (hq : as[a]? = some q) (h1 : ∀ v, chg w q = some v → ∀ I' A', bu I' A' L v → fr L I A I' A' → K 1 I' A') (h0 : chg w q = none → ∀ v I' A', bu I' A' L v → fr L I A I' A' → K 0 I' A') : ev_Bi d 6 0 [some (.ref 1018), some (.int (nI a)), some (.int (nI i)), some (.ref 1003), some (.ref L), none] I A K := by
  obtain ⟨d, rfl⟩ : ∃ e, d = e + 1 := ⟨d - 1, by omega⟩
  have ha := (List.getElem?_eq_some_iff.mp hq).1
  have h20 := hc.2.1
  have hk := ho.at hi
  have hv : vp_in (nI a) 20 := vin (by omega)
  refine t_B_change_0 hL _ _ (cf npo ?_)
  rw [hc.1]
  refine ct (ult (by omega)) (c_copyTo (by omega) hL hw ho hi hb (fun I1 A1 b1 f1 => c_size hL b1 ⟨hv, ?_⟩))
  have hw1 := hw.fr f1 hL
  have hc1 := hc.fr f1 hL
  obtain ⟨q1, ⟨e, q2, q3⟩, q4⟩ := hc1.2.2 a q hq
  have hke := ho.at q3
  have hne : q.2.1 ≠ [] := fun c => by
    rw [c] at hke
    simp at hke
  rw [ncl, q2]
  refine c_sizeOf (by omega) hw1 ho q3 ?_
  by_cases cl : q.2.1.length < w.length
  · have es : nI w.length - nI q.2.1.length = nI (w.length - q.2.1.length) := nI_sub (by omega)
    rw [es]
    refine cf (nlt (b := 1) (by omega)) ⟨hv, ?_⟩
    have hcome : ∃ m, q.2.2.length = m ∧ m ≤ 24 ∧ (A1 1021 a = -5 ∧ q.2.2 = [] ∨ ∃ c, A1 1021 a = nI c ∧ ws[c]? = some q.2.2) := by
      refine ⟨_, rfl, ?_, q4⟩
      rcases q4 with ⟨_, c2⟩ | ⟨c, _, c2⟩
      · rw [c2]
        simp
      · have := ho.at c2
        omega
    obtain ⟨m, hm, hm24, _⟩ := hcome
    have fin : (((nI (w.length - q.2.1.length) + nI m) ≤ 24 → (vp_in (nI a) 20 ∧ (vp_in (nI a) 20 ∧ (((A1 1019 a) = 0 → ev_Bi d 83 0 [some (.ref 1003), some (.int (A1 1020 a)), some (.ref L), some (.int 0), none] I1 A1 (fun z18 I16 A17 => ((z18 = 0 → K 0 I16 A17) ∧ (¬ z18 = 0 → (vp_in (nI a) 20 ∧ (((A17 1019 a) = 0 → (vp_in (nI a) 20 ∧ ev_Bv d 81 0 [some (.ref 1003), some (.int (A17 1021 a)), some (.ref L)] I16 A17 (fun I20 A21 => (vp_in (nI a) 20 ∧ ev_Bi d 80 0 [some (.ref 1003), some (.int (A21 1020 a))] I20 A21 (fun z25 I23 A24 => ev_Bv d 82 0 [some (.ref 1003), some (.int (nI i)), some (.int z25), some (.ref L), none] I23 A24 (fun I27 A28 => K 1 I27 A28)))))) ∧ (¬ (A17 1019 a) = 0 → ev_Bv d 34 0 [some (.ref L), some (.int (nI (w.length - q.2.1.length)))] I16 A17 (fun I30 A31 => (vp_in (nI a) 20 ∧ ev_Bv d 82 0 [some (.ref 1003), some (.int (A31 1021 a)), some (.int 0), some (.ref L), none] I30 A31 (fun I33 A34 => K 1 I33 A34)))))))))) ∧ (¬ (A1 1019 a) = 0 → ev_Bi d 83 0 [some (.ref 1003), some (.int (A1 1020 a)), some (.ref L), some (.int (nI (w.length - q.2.1.length))), none] I1 A1 (fun z40 I38 A39 => ((z40 = 0 → K 0 I38 A39) ∧ (¬ z40 = 0 → (vp_in (nI a) 20 ∧ (((A39 1019 a) = 0 → (vp_in (nI a) 20 ∧ ev_Bv d 81 0 [some (.ref 1003), some (.int (A39 1021 a)), some (.ref L)] I38 A39 (fun I42 A43 => (vp_in (nI a) 20 ∧ ev_Bi d 80 0 [some (.ref 1003), some (.int (A43 1020 a))] I42 A43 (fun z47 I45 A46 => ev_Bv d 82 0 [some (.ref 1003), some (.int (nI i)), some (.int z47), some (.ref L), none] I45 A46 (fun I49 A50 => K 1 I49 A50)))))) ∧ (¬ (A39 1019 a) = 0 → ev_Bv d 34 0 [some (.ref L), some (.int (nI (w.length - q.2.1.length)))] I38 A39 (fun I52 A53 => (vp_in (nI a) 20 ∧ ev_Bv d 82 0 [some (.ref 1003), some (.int (A53 1021 a)), some (.int 0), some (.ref L), none] I52 A53 (fun I55 A56 => K 1 I55 A56)))))))))))))) ∧ (¬ (nI (w.length - q.2.1.length) + nI m) ≤ 24 → K 0 I1 A1)) := by
      rw [nI_add]
      by_cases c24 : w.length - q.2.1.length + m ≤ 24
      · refine ct (ule (b := 24) c24) ⟨hv, hv, fun g => ?_, fun g => ?_⟩
        · have e1 : q.1 = false := q1.mp g
          have eat : aat w q = 0 := if_neg (by rw [e1]; decide)
          rw [q2]
          refine c_standsAt (f := 0) (by omega) hL hw1 ho q3 b1 (by omega) (fun s => z1 ⟨hv, ?_⟩) (fun s => z0 (h0 ?_ _ _ _ b1 f1))
          · refine ct g ⟨hv, ?_⟩
            have ec : chg w q = some (q.2.2 ++ w.drop q.2.1.length) := by
              rw [chg, if_pos ⟨cl, by rw [eat]; exact s, by rw [hm]; exact c24⟩, if_neg (by rw [e1]; decide)]
            have fin2 : ∀ I2 A2, bu I2 A2 L q.2.2 → fr L I1 A1 I2 A2 → (vp_in (nI a) 20 ∧ ev_Bi d 80 0 [some (.ref 1003), some (.int (A2 1020 a))] I2 A2 (fun z25 I23 A24 => ev_Bv d 82 0 [some (.ref 1003), some (.int (nI i)), some (.int z25), some (.ref L), none] I23 A24 (fun I27 A28 => K 1 I27 A28))) := fun I2 A2 b2 f2 => by
              have hw2 := hw1.fr f2 hL
              obtain ⟨_, ⟨e', q2', q3'⟩, _⟩ := (hc1.fr f2 hL).2.2 a q hq
              rw [q2']
              exact ⟨hv, c_sizeOf (by omega) hw2 ho q3' (c_addTo (by omega) hL hw2 ho hi (by omega) b2 (by omega) (fun I3 A3 b3 f3 => h1 _ ec _ _ b3 (f1.tr (f2.tr f3))))⟩
            rcases q4 with ⟨c1, c2⟩ | ⟨c, c1, c2⟩
            · rw [c1]
              rw [c2] at fin2
              exact c_copyTo_no (by omega) hL hw1 ho (kn5 ho) b1 fin2
            · rw [c1]
              exact c_copyTo (by omega) hL hw1 ho c2 b1 fin2
          · rw [chg, if_neg]
            rw [eat]
            exact fun k => s k.2.1
        · have e1 : q.1 = true := by
            cases hz : q.1 with
            | true => rfl
            | false => exact absurd (q1.mpr hz) g
          have eat : aat w q = w.length - q.2.1.length := if_pos e1
          rw [q2]
          refine c_standsAt (by omega) hL hw1 ho q3 b1 (by omega) (fun s => z1 ⟨hv, ?_⟩) (fun s => z0 (h0 ?_ _ _ _ b1 f1))
          · refine cf g (c_shorten hL b1 (by omega) (fun I2 A2 b2 f2 => ⟨hv, ?_⟩))
            have hw2 := hw1.fr f2 hL
            obtain ⟨_, _, q4'⟩ := (hc1.fr f2 hL).2.2 a q hq
            have ec : chg w q = some (w.take (w.length - q.2.1.length) ++ q.2.2) := by
              rw [chg, if_pos ⟨cl, by rw [eat]; exact s, by rw [hm]; exact c24⟩, if_pos e1]
            rcases q4' with ⟨c1, c2⟩ | ⟨c, c1, c2⟩
            · rw [c1]
              refine c_addTo_no (by omega) hL hw2 ho (kn5 ho) (h1 _ ec _ _ ?_ (f1.tr f2))
              rw [c2, List.append_nil]
              exact b2
            · rw [c1]
              refine c_addTo (f := 0) (by omega) hL hw2 ho c2 (by omega) b2 (by rw [List.length_take]; omega) (fun I3 A3 b3 f3 => h1 _ ec _ _ b3 (f1.tr (f2.tr f3)))
          · rw [chg, if_neg]
            rw [eat]
            exact fun k => s k.2.1
      · refine cf (nle (b := 24) (by omega)) (h0 ?_ _ _ _ b1 f1)
        rw [chg, if_neg]
        rw [hm]
        exact fun k => c24 k.2.2
    rcases q4 with ⟨c1, c2⟩ | ⟨c, c1, c2⟩
    · rw [c1]
      have : m = 0 := by
        rw [← hm, c2]
        rfl
      subst this
      exact c_sizeOf_no (by omega) hw1 ho (kn5 ho) fin
    · rw [c1]
      subst hm
      exact c_sizeOf (by omega) hw1 ho c2 fin
  · have hlt : nI w.length - nI q.2.1.length < 1 := by
      by_cases ce : w.length = q.2.1.length
      · rw [ce, nI_sub (by omega), Nat.sub_self]
        decide
      · exact Int32.lt_trans (nI_subneg (by omega) (by omega)) (by decide)
    refine ct hlt (h0 ?_ _ _ _ b1 f1)
    rw [chg, if_neg (fun k => cl k.1)]
theorem bac_snoc {as : List AF} {j : Nat} {q : AF} (h : as[j]? = some q) : bac ws me w (as.take (j + 1)) i = ad (bac ws me w (as.take j) i) (bsa ws me w q) := by
  unfold bac
  rw [List.take_add_one, h, List.foldl_append]
  rfl
theorem bac_len {as : List AF} : (bac ws me w as i).length ≤ as.length + 1 := by
  have : ∀ (as : List AF) (acc : List Nat), (as.foldl (fun acc a => ad acc (bsa ws me w a)) acc).length ≤ acc.length + as.length := by
    intro as
    induction as with
    | nil => intro acc; simp
    | cons a as ih =>
      intro acc
      have h1 := ih (ad acc (bsa ws me w a))
      have h2 := ad_len (acc := acc) (r := bsa ws me w a)
      simp only [List.foldl_cons, List.length_cons]
      omega
  have h1 := this as (if me i = true then [i] else [])
  have h2 : (if me i = true then [i] else []).length ≤ 1 := by split <;> simp
  unfold bac
  omega
theorem fb.fx {S : List (Nat × Nat)} {T : List Nat} {I' A' : Nat → Nat → Int32} (h : fb I A acc) (g : fx S T I A I' A') (hS : (1018, 5) ∉ S) (hT : 1022 ∉ T) : fb I' A' acc :=
  ⟨(g.1 _ _ hS).trans h.1, fun j k hj => ⟨(h.2 j k hj).1, (g.2 _ j hT).trans (h.2 j k hj).2⟩⟩
theorem mec.fx {S : List (Nat × Nat)} {T : List Nat} {I' A' : Nat → Nat → Int32} (h : mec A ws me) (g : fx S T I A I' A') (hT : 1007 ∉ T) : mec A' ws me := fun k hk => by
  rw [g.2 1007 _ hT]
  exact h k hk
abbrev cS : List (Nat × Nat) := [(1018, 5), (1010, 1)]
abbrev cT : List Nat := [1022, 1011]
theorem c_collect_l (hd : 4 ≤ d) (ho : ok ws) (hi : ws[i]? = some w) {I0 A0 : Nat → Nat → Int32} (h : ∀ v I' A', fb I' A' (bac ws me w as i) → bu I' A' 1010 v → fx cS cT I0 A0 I' A' → V I' A') : ∀ n j u I A, j + n = as.length → cw I A ws → acr I A ws as → mec A ws me → bu I A 1010 u → fb I A (bac ws me w (as.take j) i) → fx cS cT I0 A0 I A → ev_Bv d 3 14 [some (.ref 1018), some (.int (nI i)), some (.ref 1003), some (.ref 1010), some (.int (nI j))] I A V := by
  obtain ⟨d, rfl⟩ : ∃ e, d = e + 1 := ⟨d - 1, by omega⟩
  intro n
  induction n with
  | zero =>
    intro j u I A hj hw hc hm hb hf hg
    have : j = as.length := by omega
    subst this
    have h20 := hc.2.1
    rw [List.take_length] at hf
    refine t_B_collect_14 isL2 _ _ ?_
    rw [hc.1]
    exact ct (ule (by omega)) (h _ _ _ hf hb hg)
  | succ n ih =>
    intro j u I A hj hw hc hm hb hf hg
    have h20 := hc.2.1
    have hjl : j < as.length := by omega
    have hq : as[j]? = some as[j] := List.getElem?_eq_getElem hjl
    generalize as[j] = q at hq
    have hsn := bac_snoc (ws := ws) (me := me) (w := w) (i := i) hq
    have hln := bac_len (ws := ws) (me := me) (w := w) (i := i) (as := as.take j)
    rw [List.length_take] at hln
    refine t_B_collect_14 isL2 _ _ ?_
    rw [hc.1]
    have nx : ∀ v I' A', fb I' A' (bac ws me w (as.take (j + 1)) i) → bu I' A' 1010 v → fx cS cT I A I' A' → ev_Bv (d + 1) 3 45 [some (.ref 1018), some (.int (nI i)), some (.ref 1003), some (.ref 1010), some (.int (nI j))] I' A' V := fun v I' A' f' b' g' => by
      refine t_B_collect_45 isL2 _ _ ?_
      rw [nI_1]
      exact ih (j + 1) v I' A' (by omega) (hw.fx g' (by decide) (by decide) (by decide)) (hc.fx g' (by decide) (by decide)) (hm.fx g' (by decide)) b' f' (hg.tr g')
    refine cf (nle (by omega)) (c_change (by omega) isL2 hw ho hc hb hi hq (fun v e I1 A1 b1 f1 => z1 ?_) (fun e v I1 A1 b1 f1 => z0 (nx _ _ _ ?_ b1 (f1.sub (by decide) (by decide)))))
    · have hw1 := hw.fr f1 isL2
      have hf1 := hf.fx f1 (by decide) (by decide)
      have hm1 := hm.fx f1 (by decide)
      refine c_find (by omega) isL2 hw1 ho b1 (fun k hk => ?_) (fun hk => ?_)
      · refine c_noteX (by omega) hw1 ho hf1 (by omega) (fi_get hk) hm1 (fun I2 A2 f2 g2 => nx _ _ _ ?_ (b1.fx g2 (by decide) (by decide)) ((f1.sub (by decide) (by decide)).tr (g2.sub (by decide) (by decide))))
        have eb : bsa ws me w q = if me k = true then some k else none := by
          rw [bsa, e]
          simp only
          rw [hk]
        rw [hsn, eb]
        exact f2
      · refine c_noteN (by omega) hw1 ho (kn5 ho) (nx _ _ _ ?_ b1 (f1.sub (by decide) (by decide)))
        have eb : bsa ws me w q = none := by
          rw [bsa, e]
          simp only
          rw [hk]
        rw [hsn, eb]
        exact hf1
    · have eb : bsa ws me w q = none := by rw [bsa, e]
      rw [hsn, eb]
      exact hf.fx f1 (by decide) (by decide)
theorem c_collect (hd : 4 ≤ d) (ho : ok ws) (hi : ws[i]? = some w) (hw : cw I A ws) (hc : acr I A ws as) (hm : mec A ws me) (hb : bu I A 1010 u) (h : ∀ v I' A', fb I' A' (bac ws me w as i) → bu I' A' 1010 v → fx cS cT I A I' A' → V I' A') : ev_Bv d 3 0 [some (.ref 1018), some (.int (nI i)), some (.ref 1003), some (.ref 1010), none] I A V := by
  obtain ⟨d, rfl⟩ : ∃ e, d = e + 1 := ⟨d - 1, by omega⟩
  have g0 : fx cS cT I A (ev_upd I 1018 5 0) A := fx.iu (by simp)
  have hf0 : fb (ev_upd I 1018 5 0) A [] := ⟨ev_upd_eq, fun j k hj => by simp at hj⟩
  refine t_B_collect_0 isL2 _ (c_noteX (acc := []) (by omega) (hw.fx g0 (by decide) (by decide) (by decide)) ho hf0 (by simp) hi hm (fun I1 A1 f1 g1 => ?_))
  have g2 : fx cS cT I A I1 A1 := g0.tr (g1.sub (by decide) (by decide))
  refine c_collect_l (by omega) ho hi h as.length 0 u I1 A1 (by omega) (hw.fx g2 (by decide) (by decide) (by decide)) (hc.fx g2 (by decide) (by decide)) (hm.fx g2 (by decide)) ((hb.fx (fx.iu (S := [(1018, 5)]) (T := []) (by simp) : fx [(1018, 5)] [] I A (ev_upd I 1018 5 0) A) (by decide) (by decide)).fx g1 (by decide) (by decide)) ?_ g2
  have e : ad [] (if me i = true then some i else none) = bac ws me w (as.take 0) i := by
    unfold bac
    cases me i <;> rfl
  rw [← e]
  exact f1
end CTR

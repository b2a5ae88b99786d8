/-! BASE -/
def fbm (A : Nat → Nat → Int32) (acc : List Nat) : Prop := ∀ j k, acc[j]? = some k → k < 150 ∧ A 1049 j = nI k
section CTR
variable {d : Nat} {I A : Nat → Nat → Int32} {K : Int32 → (Nat → Nat → Int32) → (Nat → Nat → Int32) → Prop} {V : (Nat → Nat → Int32) → (Nat → Nat → Int32) → Prop} {i k : Nat} {N : Nat} {xs : Nat → Int32} {u w t o : List Int32} {ws : List (List Int32)} {me : Nat → Bool} {acc : List Nat} {as : List AF}
abbrev mS : List (Nat × Nat) := [(1033, 21)]
abbrev mT : List Nat := [1048, 1049]
theorem fbm.fx {S : List (Nat × Nat)} {T : List Nat} {I' A' : Nat → Nat → Int32} (h : fbm A acc) (g : fx S T I A I' A') (hT : 1049 ∉ T) : fbm A' acc := fun j k hj => ⟨(h j k hj).1, (g.2 _ j hT).trans (h j k hj).2⟩
theorem c_base_a (hd : 1 ≤ d) {x1 y x4 : Int32} {r : Option Nat} {x5 : Int32} (hx : (r = none ∧ x5 = -1) ∨ ∃ k, r = some k ∧ x5 = nI k ∧ k < 150) (hf : fbm A acc) (h21 : acc.length ≤ 20) (h : ∀ A' x6 x7, fbm A' (ad acc r) → fx [] [1049] I A I A' → ev_Bi d 167 116 [some (.ref 1033), some (.int x1), some (.int y), some (.int (nI (ad acc r).length)), some (.int x4), some (.int x5), some (.int x6), some (.int x7)] I A' K) : ∀ n j (x6 : Int32), j + n = acc.length → ((x6 = 0 ∧ ad acc r = acc) ∨ (x6 = 1 ∧ ∃ k, r = some k ∧ x5 = nI k ∧ k < 150 ∧ ∀ q, q < j → acc[q]? ≠ some k)) → ev_Bi d 167 66 [some (.ref 1033), some (.int x1), some (.int y), some (.int (nI acc.length)), some (.int x4), some (.int x5), some (.int x6), some (.int (nI j))] I A K := by
  obtain ⟨d, rfl⟩ : ∃ e, d = e + 1 := ⟨d - 1, by omega⟩
  intro n
  induction n with
  | zero =>
    intro j x6 hj h6
    refine t_M_base_66 _ _ _ _ _ _ _ (ct (ule (by omega)) ?_)
    rcases h6 with ⟨rfl, e⟩ | ⟨rfl, k, rfl, rfl, hk, hq⟩
    · refine z0 ?_
      have := h A 0 (nI j) (by rw [e]; exact hf) fx.rf
      rw [e] at this
      exact this
    · have hn : k ∉ acc := not_mem_get (fun q hq' => hq q (by omega))
      have ea : ad acc (some k) = acc ++ [k] := if_neg hn
      have hl : (acc ++ [k]).length = acc.length + 1 := by simp
      refine z1 ⟨vin (by omega), ?_⟩
      rw [nI_1, ncl]
      have h2 := h (ev_upd A 1049 acc.length (nI k)) 1 (nI j) (by
        rw [ea]
        intro q k' hq'
        rw [ev_upd_at]
        by_cases cq : q = acc.length
        · rw [if_pos cq]
          rw [cq, List.getElem?_append_right (by omega), Nat.sub_self] at hq'
          have : k = k' := by simpa using hq'
          rw [← this]
          exact ⟨hk, rfl⟩
        · rw [if_neg cq]
          have hql := (List.getElem?_eq_some_iff.mp hq').1
          simp at hql
          rw [List.getElem?_append_left (by omega)] at hq'
          exact hf q k' hq') (fx.au (by simp))
      rw [ea, hl] at h2
      exact h2
  | succ n ih =>
    intro j x6 hj h6
    have hjl : j < acc.length := by omega
    have hq : acc[j]? = some acc[j] := List.getElem?_eq_getElem hjl
    generalize acc[j] = k' at hq
    obtain ⟨a1, a2⟩ := hf j k' hq
    refine t_M_base_66 _ _ _ _ _ _ _ (cf (nle (by omega)) ⟨vin (by omega), ?_⟩)
    rw [ncl, a2, nI_1]
    rcases h6 with ⟨rfl, e⟩ | ⟨rfl, k, rfl, rfl, hk, hq'⟩
    · exact ⟨fun _ => ih (j + 1) _ (by omega) (.inl ⟨by decide, e⟩), fun _ => ih (j + 1) _ (by omega) (.inl ⟨by decide, e⟩)⟩
    · refine ⟨fun g => ih (j + 1) _ (by omega) (.inl ⟨by decide, ?_⟩), fun g => ih (j + 1) _ (by omega) (.inr ⟨by decide, k, rfl, rfl, hk, fun q hq2 => ?_⟩)⟩
      · have e : k' = k := (nI_eq (by omega) (by omega)).mp g
        exact if_pos (by rw [← e]; exact List.mem_of_getElem? hq)
      · by_cases ce : q = j
        · rw [ce, hq]
          intro c
          rw [Option.some.injEq] at c
          exact g (by rw [c])
        · exact hq' q (by omega)
theorem bsa_lt (ho : ok ws) {q : AF} (hk : bsa ws me w q = some k) : k < 150 := by
  unfold bsa at hk
  split at hk
  · exact absurd hk (by simp)
  · split at hk
    · exact absurd hk (by simp)
    · rename_i k' hk'
      split at hk
      · rw [Option.some.injEq] at hk
        rw [← hk]
        exact (ho.at (fi_get hk')).1
      · exact absurd hk (by simp)
theorem c_base_l (hd : 3 ≤ d) (ho : ok ws) (hi : ws[i]? = some w) (hw : mw I A ws) (hc : amr I A ws as) (hm : mem A ws me) {y : Int32} (h1 : ∀ j k I' A', y = nI j → (bac ws me w as i)[j]? = some k → fx mS mT I A I' A' → K (nI k) I' A') (h0 : (¬ ∃ j k, y = nI j ∧ (bac ws me w as i)[j]? = some k) → ∀ I' A', fx mS mT I A I' A' → K (-5) I' A') : ∀ n j I1 A1 o5 o6 o7, j + n = as.length → fbm A1 (bac ws me w (as.take j) i) → fx mS mT I A I1 A1 → ev_Bi d 167 33 [some (.ref 1033), some (.int (nI i)), some (.int y), some (.int (nI (bac ws me w (as.take j) i).length)), some (.int (nI j)), o5, o6, o7] I1 A1 K := by
  obtain ⟨d, rfl⟩ : ∃ e, d = e + 1 := ⟨d - 1, by omega⟩
  have h20 := hc.2.1
  intro n
  induction n with
  | zero =>
    intro j I1 A1 o5 o6 o7 hj hf hg
    have : j = as.length := by omega
    subst this
    have hc1 : amr I1 A1 ws as := hc.fx hg (by decide) (by decide)
    have hln := bac_len (ws := ws) (me := me) (w := w) (i := i) (as := as)
    rw [List.take_length] at hf ⊢
    refine t_M_base_33 _ _ _ _ _ _ _ ?_
    rw [hc1.1]
    refine ct (ule (by omega)) (c_beyond (fun c => z1 (h0 ?_ _ _ hg)) (fun c => z0 ?_))
    · rw [beyond0 (by omega)] at c
      rintro ⟨j, k, rfl, hj2⟩
      exact c ⟨j, (List.getElem?_eq_some_iff.mp hj2).1, rfl⟩
    · rw [beyond0 (by omega), Classical.not_not] at c
      obtain ⟨j, hj2, rfl⟩ := c
      have hq : (bac ws me w as i)[j]? = some (bac ws me w as i)[j] := List.getElem?_eq_getElem hj2
      generalize (bac ws me w as i)[j] = k at hq
      rw [ncl, (hf j k hq).2]
      exact ⟨vin (by omega), h1 j k _ _ rfl hq hg⟩
  | succ n ih =>
    intro j I1 A1 o5 o6 o7 hj hf hg
    have hc1 : amr I1 A1 ws as := hc.fx hg (by decide) (by decide)
    have hw1 : mw I1 A1 ws := hw.fx hg (by decide) (by decide) (by decide)
    have hm1 : mem A1 ws me := hm.fx hg (by decide)
    have hjl : j < as.length := by omega
    have hq : as[j]? = some as[j] := List.getElem?_eq_getElem hjl
    generalize as[j] = q at hq
    have hsn := bac_snoc (ws := ws) (me := me) (w := w) (i := i) hq
    have hln := bac_len (ws := ws) (me := me) (w := w) (i := i) (as := as.take j)
    rw [List.length_take] at hln
    refine t_M_base_33 _ _ _ _ _ _ _ ?_
    rw [hc1.1]
    have nx : ∀ I2 A2 x5 x6 x7, fbm A2 (ad (bac ws me w (as.take j) i) (bsa ws me w q)) → fx mS mT I A I2 A2 → ev_Bi (d + 1) 167 116 [some (.ref 1033), some (.int (nI i)), some (.int y), some (.int (nI (ad (bac ws me w (as.take j) i) (bsa ws me w q)).length)), some (.int (nI j)), some (.int x5), some (.int x6), some (.int x7)] I2 A2 K := fun I2 A2 x5 x6 x7 f2 g2 => by
      refine t_M_base_116 _ _ _ _ _ _ _ ?_
      rw [nI_1, ← hsn]
      rw [← hsn] at f2
      exact ih (j + 1) I2 A2 _ _ _ (by omega) f2 g2
    refine cf (nle (by omega)) (c_byAffix (by omega) ho hw1 hc1 hm1 hi hq (fun k hk I2 A2 f2 => ?_) (fun hk I2 A2 f2 => ct (by decide) ?_))
    · have hk150 : k < 150 := bsa_lt ho hk
      refine cf npo ?_
      have hx : ((bsa ws me w q = none ∧ nI k = -1) ∨ ∃ k', bsa ws me w q = some k' ∧ nI k = nI k' ∧ k' < 150) := .inr ⟨k, hk, rfl, hk150⟩
      exact c_base_a (by omega) hx (hf.fx f2 (by decide)) (by omega) (fun A3 x6 x7 f3 g3 => nx _ _ _ _ _ f3 (hg.tr ((f2.sub (by decide) (by decide)).tr (g3.sub (by decide) (by decide))))) _ 0 1 (Nat.zero_add _) (.inr ⟨rfl, k, hk, rfl, hk150, fun q hq => absurd hq (by omega)⟩)
    · have hx : ((bsa ws me w q = none ∧ (-1 : Int32) = -1) ∨ ∃ k', bsa ws me w q = some k' ∧ (-1 : Int32) = nI k' ∧ k' < 150) := .inl ⟨hk, rfl⟩
      exact c_base_a (by omega) hx (hf.fx f2 (by decide)) (by omega) (fun A3 x6 x7 f3 g3 => nx _ _ _ _ _ f3 (hg.tr ((f2.sub (by decide) (by decide)).tr (g3.sub (by decide) (by decide))))) _ 0 0 (Nat.zero_add _) (.inl ⟨rfl, by rw [hk]; rfl⟩)
theorem u_base (hd : 5 ≤ d) (h : Sm N xs I A t ws o) (x y : Int32) : ev_Bi d 106 0 [some (.ref 1000), some (.int x), some (.int y)] I A (md d N xs 167 [some (.ref 1033), some (.int x), some (.int y), none, none, none, none, none]) := by
  obtain ⟨d, rfl⟩ : ∃ e, d = e + 1 := ⟨d - 1, by omega⟩
  have h11 := Sm_S11 h
  obtain ⟨hcw, hmw, ho, _⟩ := h.2.1
  refine t_S_base_0 x y (c_knows hcw ho (fun c => z1 ?_) (fun c => z0 ⟨h11, t_M_base_0 _ _ (c_strange (by omega) hmw ho (fun _ => z1 ⟨rfl, t, ws, o, h⟩) (fun n => absurd n c))⟩))
  obtain ⟨i, w, rfl, hi⟩ := c
  have hk := ho.at hi
  obtain ⟨me, hmc, hmm⟩ := h.2.2.2.1.members
  obtain ⟨r, h7⟩ := h.2.2.2.2.2.2.1
  obtain ⟨as, ha1, ha2⟩ := h7.rows
  obtain ⟨a, ha⟩ := h.2.2.2.2.2.2.2.2.2.1.1
  refine c_collect (by omega) ho hi hcw ha1 hmc ha (fun v I1 A1 f1 b1 g1 => ?_)
  have hmw1 : mw I1 A1 ws := hmw.fx g1 (by decide) (by decide) (by decide)
  have ha3 : amr I1 A1 ws as := ha2.fx g1 (by decide) (by decide)
  have hmm1 : mem A1 ws me := hmm.fx g1 (by decide)
  have hln := bac_len (ws := ws) (me := me) (w := w) (i := i) (as := as)
  have h20 := ha1.2.1
  have fin : ∀ z, (∀ j k, y = nI j → (bac ws me w as i)[j]? = some k → z = nI k) → ((¬ ∃ j k, y = nI j ∧ (bac ws me w as i)[j]? = some k) → z = -5) → md (d + 1) N xs 167 [some (.ref 1033), some (.int (nI i)), some (.int y), none, none, none, none, none] z I1 A1 := fun z z1' z0' => by
    refine ⟨h11.fx g1 (by decide) (by decide), ?_⟩
    have done' : ∀ y' I' A', fx mS mT I1 A1 I' A' → y' = z → (y' = z ∧ Sim N xs I' A') := fun y' I' A' g2 e => by
      refine ⟨e, t, ws, o, Sm_wk h ((g1.sub (by decide) (by decide)).tr (g2.sub (by decide) (by decide))) (b1.fx g2 (by decide) (by decide))⟩
    have lp : ∀ A2 x3 o4 o5 o6 o7, fbm A2 (bac ws me w (as.take 0) i) → x3 = nI (bac ws me w (as.take 0) i).length → fx [] [1049] I1 A1 I1 A2 → ev_Bi (d + 1) 167 30 [some (.ref 1033), some (.int (nI i)), some (.int y), some (.int x3), o4, o5, o6, o7] I1 A2 (fun y I' A' => y = z ∧ Sim N xs I' A') := fun A2 x3 o4 o5 o6 o7 f2 e3 g2 => by
      subst e3
      refine t_M_base_30 _ _ _ _ _ _ _ (c_base_l (by omega) ho hi hmw1 ha3 hmm1 (fun j k I' A' e g g3 => done' _ _ _ g3 (z1' j k e g).symm) (fun g I' A' g3 => done' _ _ _ g3 (z0' g).symm) as.length 0 I1 A2 _ _ _ (by omega) f2 (g2.sub (by decide) (by decide)))
    refine t_M_base_0 _ _ (c_strange (by omega) hmw1 ho (fun n => absurd ⟨i, w, rfl, hi⟩ n) (fun _ => z0 (c_isMemberM ho hmm1 hi (fun m => z1 ⟨vin (n := 0) (by omega), lp _ _ _ _ _ _ ?_ ?_ (fx.au (by simp))⟩) (fun m => z0 (lp _ _ _ _ _ _ ?_ ?_ fx.rf)))))
    · have e : bac ws me w (as.take 0) i = [i] := by
        unfold bac
        rw [List.take_zero, List.foldl_nil, if_pos m]
      rw [e]
      intro j k hj
      have hj0 : j = 0 := by
        have := (List.getElem?_eq_some_iff.mp hj).1
        simp at this
        exact this
      subst hj0
      have : i = k := by simpa using hj
      rw [← this]
      exact ⟨by omega, ev_upd_eq⟩
    · have e : bac ws me w (as.take 0) i = [i] := by
        unfold bac
        rw [List.take_zero, List.foldl_nil, if_pos m]
      rw [e]
      rfl
    · have e : bac ws me w (as.take 0) i = [] := by
        unfold bac
        rw [List.take_zero, List.foldl_nil, if_neg (by rw [m]; decide)]
      rw [e]
      intro j k hj
      simp at hj
    · have e : bac ws me w (as.take 0) i = [] := by
        unfold bac
        rw [List.take_zero, List.foldl_nil, if_neg (by rw [m]; decide)]
      rw [e]
      rfl
  refine t_B_found_0 _ ⟨fun c => fin _ (fun j k e g => ?_) (fun _ => rfl), fun c => ?_⟩
  · have := (List.getElem?_eq_some_iff.mp g).1
    rw [e] at c
    exact absurd c npo
  · rcases int_cases y with q | ⟨j, hj, rfl⟩
    · exact absurd q c
    rw [f1.1, ncl]
    by_cases cj : (bac ws me w as i).length ≤ j
    · refine ct (ule cj) (fin _ (fun j' k e g => ?_) (fun _ => rfl))
      have h1 := (List.getElem?_eq_some_iff.mp g).1
      have h2 : j = j' := (nI_eq (by omega) (by omega)).mp e
      omega
    · have hq : (bac ws me w as i)[j]? = some (bac ws me w as i)[j] := List.getElem?_eq_getElem (by omega)
      generalize (bac ws me w as i)[j] = k at hq
      refine cf (nle (by omega)) ⟨vin (by omega), ?_⟩
      rw [(f1.2 j k hq).2]
      refine fin _ (fun j' k' e g => ?_) (fun g => absurd ⟨j, k, rfl, hq⟩ g)
      have h1 := (List.getElem?_eq_some_iff.mp g).1
      have h2 : j = j' := (nI_eq (by omega) (by omega)).mp e
      rw [← h2, hq, Option.some.injEq] at g
      rw [g]
end CTR

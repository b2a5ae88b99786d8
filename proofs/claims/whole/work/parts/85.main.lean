/-! THE LAW'S LOOP -/
theorem law_call {L i : Nat} (hL : L ≤ 3072) {xs : Nat → Int32} (hi : i + 6 ≤ L) {I A : Nat → Nat → Int32} {t o : List Int32} {ws : List (List Int32)} (h : Sm L xs I A t ws o) (nx : ∀ I' A', Sim L xs I' A' → ev_Bi 14 190 822 [some (.ref 502), some (.ref 1000), some (.ref 1033), some (.int (nI i))] I' A' (fun z _ _ => z = 1)) : ∀ j, j < 20 → ev_Bis 14 190 33 [some (.ref 502), some (.ref 1000), some (.ref 1033), some (.int (nI i))] [.int (nI j)] I A (fun z _ _ => z = 1) := by
  have h11 := Sm_S11 h
  have e1 : nI i + 1 = nI (i + 1) := nI_1 i
  have e2 : nI i + 2 = nI (i + 2) := nI_add i 2
  have e3 : nI i + 3 = nI (i + 3) := nI_add i 3
  have e4 : nI i + 4 = nI (i + 4) := nI_add i 4
  have e5 : nI i + 5 = nI (i + 5) := nI_add i 5
  have sz : ∀ {I1 A1 : Nat → Nat → Int32}, S11 L xs I1 A1 → (I1 502 0 : Int32).toNatClampNeg = L := fun {I1 A1} q => by
    rw [q.1, ncl]
  have a1 : ∀ {I1 A1 : Nat → Nat → Int32}, S11 L xs I1 A1 → A1 502 (nI i + 1 : Int32).toNatClampNeg = xs (i + 1) := fun {I1 A1} q => by
    rw [e1, ncl, q.2]
  have a2 : ∀ {I1 A1 : Nat → Nat → Int32}, S11 L xs I1 A1 → A1 502 (nI i + 2 : Int32).toNatClampNeg = xs (i + 2) := fun {I1 A1} q => by
    rw [e2, ncl, q.2]
  have a3 : ∀ {I1 A1 : Nat → Nat → Int32}, S11 L xs I1 A1 → A1 502 (nI i + 3 : Int32).toNatClampNeg = xs (i + 3) := fun {I1 A1} q => by
    rw [e3, ncl, q.2]
  have a4 : ∀ {I1 A1 : Nat → Nat → Int32}, S11 L xs I1 A1 → A1 502 (nI i + 4 : Int32).toNatClampNeg = xs (i + 4) := fun {I1 A1} q => by
    rw [e4, ncl, q.2]
  have a5 : ∀ {I1 A1 : Nat → Nat → Int32}, S11 L xs I1 A1 → A1 502 (nI i + 5 : Int32).toNatClampNeg = xs (i + 5) := fun {I1 A1} q => by
    rw [e5, ncl, q.2]
  have v1 : vp_in (nI i + 1) L := by rw [e1]; exact vin (by omega)
  have v2 : vp_in (nI i + 2) L := by rw [e2]; exact vin (by omega)
  have v3 : vp_in (nI i + 3) L := by rw [e3]; exact vin (by omega)
  have v4 : vp_in (nI i + 4) L := by rw [e4]; exact vin (by omega)
  have v5 : vp_in (nI i + 5) L := by rw [e5]; exact vin (by omega)
  intro j hj
  match j, hj with
  | 0, _ =>
    refine t_X_law_33s0 _ ?_
    simp only [sz h11, a1 h11, a2 h11, a3 h11, a4 h11, a5 h11]
    refine ⟨v1, v2, v3, v4, v5, bi_mono (u_feed (by omega) h (xs (i + 1)) (xs (i + 2)) (xs (i + 3)) (xs (i + 4)) (xs (i + 5))) (fun z I1 A1 hm => ?_)⟩
    simp only [sz hm.1, a1 hm.1, a2 hm.1, a3 hm.1, a4 hm.1, a5 hm.1]
    exact ⟨v1, v2, v3, v4, v5, bi_mono hm.2 (fun y I2 A2 hy => ⟨fun _ => nx _ _ hy.2, fun q => absurd hy.1.symm q⟩)⟩
  | 1, _ =>
    refine t_X_law_33s1 _ ?_
    simp only [sz h11, a1 h11, a2 h11, a3 h11, a4 h11, a5 h11]
    refine ⟨v1, bi_mono (u_cut (by omega) h (xs (i + 1))) (fun z I1 A1 hm => ?_)⟩
    simp only [sz hm.1, a1 hm.1, a2 hm.1, a3 hm.1, a4 hm.1, a5 hm.1]
    exact ⟨v1, bi_mono hm.2 (fun y I2 A2 hy => ⟨fun _ => nx _ _ hy.2, fun q => absurd hy.1.symm q⟩)⟩
  | 2, _ =>
    refine t_X_law_33s2 _ ?_
    simp only [sz h11, a1 h11, a2 h11, a3 h11, a4 h11, a5 h11]
    refine ⟨v1, bi_mono (u_out (by omega) h (xs (i + 1))) (fun z I1 A1 hm => ?_)⟩
    simp only [sz hm.1, a1 hm.1, a2 hm.1, a3 hm.1, a4 hm.1, a5 hm.1]
    exact ⟨v1, bi_mono hm.2 (fun y I2 A2 hy => ⟨fun _ => nx _ _ hy.2, fun q => absurd hy.1.symm q⟩)⟩
  | 3, _ =>
    exact t_X_law_33s3 _ (bi_mono (u_word (by omega) h) (fun z I1 A1 hm => bi_mono hm.2 (fun y I2 A2 hy => ⟨fun _ => nx _ _ hy.2, fun q => absurd hy.1.symm q⟩)))
  | 4, _ =>
    refine t_X_law_33s4 _ ?_
    simp only [sz h11, a1 h11, a2 h11, a3 h11, a4 h11, a5 h11]
    refine ⟨v1, bi_mono (u_spell (by omega) h (xs (i + 1))) (fun z I1 A1 hm => ?_)⟩
    simp only [sz hm.1, a1 hm.1, a2 hm.1, a3 hm.1, a4 hm.1, a5 hm.1]
    exact ⟨v1, bi_mono hm.2 (fun y I2 A2 hy => ⟨fun _ => nx _ _ hy.2, fun q => absurd hy.1.symm q⟩)⟩
  | 5, _ =>
    refine t_X_law_33s5 _ ?_
    simp only [sz h11, a1 h11, a2 h11, a3 h11, a4 h11, a5 h11]
    refine ⟨v1, v2, bi_mono (u_stem (by omega) h (xs (i + 1)) (xs (i + 2))) (fun z I1 A1 hm => ?_)⟩
    simp only [sz hm.1, a1 hm.1, a2 hm.1, a3 hm.1, a4 hm.1, a5 hm.1]
    exact ⟨v1, v2, bi_mono hm.2 (fun y I2 A2 hy => ⟨fun _ => nx _ _ hy.2, fun q => absurd hy.1.symm q⟩)⟩
  | 6, _ =>
    refine t_X_law_33s6 _ ?_
    simp only [sz h11, a1 h11, a2 h11, a3 h11, a4 h11, a5 h11]
    refine ⟨v1, v2, bi_mono (u_step (by omega) h (xs (i + 1)) (xs (i + 2))) (fun z I1 A1 hm => ?_)⟩
    simp only [sz hm.1, a1 hm.1, a2 hm.1, a3 hm.1, a4 hm.1, a5 hm.1]
    exact ⟨v1, v2, bi_mono hm.2 (fun y I2 A2 hy => ⟨fun _ => nx _ _ hy.2, fun q => absurd hy.1.symm q⟩)⟩
  | 7, _ =>
    refine t_X_law_33s7 _ ?_
    simp only [sz h11, a1 h11, a2 h11, a3 h11, a4 h11, a5 h11]
    refine ⟨v1, bi_mono (u_measure (by omega) h (xs (i + 1))) (fun z I1 A1 hm => ?_)⟩
    simp only [sz hm.1, a1 hm.1, a2 hm.1, a3 hm.1, a4 hm.1, a5 hm.1]
    exact ⟨v1, bi_mono hm.2 (fun y I2 A2 hy => ⟨fun _ => nx _ _ hy.2, fun q => absurd hy.1.symm q⟩)⟩
  | 8, _ =>
    refine t_X_law_33s8 _ ?_
    simp only [sz h11, a1 h11, a2 h11, a3 h11, a4 h11, a5 h11]
    refine ⟨v1, v2, v3, ?_⟩
    by_cases c3 : xs (i + 3) = 0
    · refine ct c3 (bi_mono (u_mark (by omega) h (xs (i + 1)) (xs (i + 2)) 0 (.inl rfl)) (fun z I1 A1 hm => ?_))
      simp only [sz hm.1, a1 hm.1, a2 hm.1, a3 hm.1, a4 hm.1, a5 hm.1]
      exact ⟨v1, v2, v3, ct c3 (bi_mono hm.2 (fun y I2 A2 hy => ⟨fun _ => nx _ _ hy.2, fun q => absurd hy.1.symm q⟩))⟩
    · refine cf c3 (bi_mono (u_mark (by omega) h (xs (i + 1)) (xs (i + 2)) 1 (.inr rfl)) (fun z I1 A1 hm => ?_))
      simp only [sz hm.1, a1 hm.1, a2 hm.1, a3 hm.1, a4 hm.1, a5 hm.1]
      exact ⟨v1, v2, v3, cf c3 (bi_mono hm.2 (fun y I2 A2 hy => ⟨fun _ => nx _ _ hy.2, fun q => absurd hy.1.symm q⟩))⟩
  | 9, _ =>
    refine t_X_law_33s9 _ ?_
    simp only [sz h11, a1 h11, a2 h11, a3 h11, a4 h11, a5 h11]
    refine ⟨v1, v2, bi_mono (u_pair (by omega) h (xs (i + 1)) (xs (i + 2))) (fun z I1 A1 hm => ?_)⟩
    simp only [sz hm.1, a1 hm.1, a2 hm.1, a3 hm.1, a4 hm.1, a5 hm.1]
    exact ⟨v1, v2, bi_mono hm.2 (fun y I2 A2 hy => ⟨fun _ => nx _ _ hy.2, fun q => absurd hy.1.symm q⟩)⟩
  | 10, _ =>
    refine t_X_law_33s10 _ ?_
    simp only [sz h11, a1 h11, a2 h11, a3 h11, a4 h11, a5 h11]
    refine ⟨v1, v2, ?_⟩
    by_cases c2 : xs (i + 2) = 0
    · refine ct c2 ⟨v3, v4, v5, ?_⟩
      by_cases c5 : xs (i + 5) = 0
      · refine ct c5 (bi_mono (u_row (by omega) h (xs (i + 1)) 0 (xs (i + 3)) (xs (i + 4)) 0 (.inl rfl) (.inl rfl)) (fun z I1 A1 hm => ?_))
        simp only [sz hm.1, a1 hm.1, a2 hm.1, a3 hm.1, a4 hm.1, a5 hm.1]
        exact ⟨v1, v2, ct c2 ⟨v3, v4, v5, ct c5 (bi_mono hm.2 (fun y I2 A2 hy => ⟨fun _ => nx _ _ hy.2, fun q => absurd hy.1.symm q⟩))⟩⟩
      · refine cf c5 (bi_mono (u_row (by omega) h (xs (i + 1)) 0 (xs (i + 3)) (xs (i + 4)) 1 (.inl rfl) (.inr rfl)) (fun z I1 A1 hm => ?_))
        simp only [sz hm.1, a1 hm.1, a2 hm.1, a3 hm.1, a4 hm.1, a5 hm.1]
        exact ⟨v1, v2, ct c2 ⟨v3, v4, v5, cf c5 (bi_mono hm.2 (fun y I2 A2 hy => ⟨fun _ => nx _ _ hy.2, fun q => absurd hy.1.symm q⟩))⟩⟩
    · refine cf c2 ⟨v3, v4, v5, ?_⟩
      by_cases c5 : xs (i + 5) = 0
      · refine ct c5 (bi_mono (u_row (by omega) h (xs (i + 1)) 1 (xs (i + 3)) (xs (i + 4)) 0 (.inr rfl) (.inl rfl)) (fun z I1 A1 hm => ?_))
        simp only [sz hm.1, a1 hm.1, a2 hm.1, a3 hm.1, a4 hm.1, a5 hm.1]
        exact ⟨v1, v2, cf c2 ⟨v3, v4, v5, ct c5 (bi_mono hm.2 (fun y I2 A2 hy => ⟨fun _ => nx _ _ hy.2, fun q => absurd hy.1.symm q⟩))⟩⟩
      · refine cf c5 (bi_mono (u_row (by omega) h (xs (i + 1)) 1 (xs (i + 3)) (xs (i + 4)) 1 (.inr rfl) (.inr rfl)) (fun z I1 A1 hm => ?_))
        simp only [sz hm.1, a1 hm.1, a2 hm.1, a3 hm.1, a4 hm.1, a5 hm.1]
        exact ⟨v1, v2, cf c2 ⟨v3, v4, v5, cf c5 (bi_mono hm.2 (fun y I2 A2 hy => ⟨fun _ => nx _ _ hy.2, fun q => absurd hy.1.symm q⟩))⟩⟩
  | 11, _ =>
    exact t_X_law_33s11 _ (bi_mono (u_rowless (by omega) h) (fun z I1 A1 hm => bi_mono hm.2 (fun y I2 A2 hy => ⟨fun _ => nx _ _ hy.2, fun q => absurd hy.1.symm q⟩)))
  | 12, _ =>
    refine t_X_law_33s12 _ ?_
    simp only [sz h11, a1 h11, a2 h11, a3 h11, a4 h11, a5 h11]
    refine ⟨v1, ?_⟩
    by_cases c1 : xs (i + 1) = 0
    · refine ct c1 ⟨v2, v3, bi_mono (u_affix (by omega) h 0 (xs (i + 2)) (xs (i + 3)) (.inl rfl)) (fun z I1 A1 hm => ?_)⟩
      simp only [sz hm.1, a1 hm.1, a2 hm.1, a3 hm.1, a4 hm.1, a5 hm.1]
      exact ⟨v1, ct c1 ⟨v2, v3, bi_mono hm.2 (fun y I2 A2 hy => ⟨fun _ => nx _ _ hy.2, fun q => absurd hy.1.symm q⟩)⟩⟩
    · refine cf c1 ⟨v2, v3, bi_mono (u_affix (by omega) h 1 (xs (i + 2)) (xs (i + 3)) (.inr rfl)) (fun z I1 A1 hm => ?_)⟩
      simp only [sz hm.1, a1 hm.1, a2 hm.1, a3 hm.1, a4 hm.1, a5 hm.1]
      exact ⟨v1, cf c1 ⟨v2, v3, bi_mono hm.2 (fun y I2 A2 hy => ⟨fun _ => nx _ _ hy.2, fun q => absurd hy.1.symm q⟩)⟩⟩
  | 13, _ =>
    refine t_X_law_33s13 _ ?_
    simp only [sz h11, a1 h11, a2 h11, a3 h11, a4 h11, a5 h11]
    refine ⟨v1, v2, bi_mono (u_base (by omega) h (xs (i + 1)) (xs (i + 2))) (fun z I1 A1 hm => ?_)⟩
    simp only [sz hm.1, a1 hm.1, a2 hm.1, a3 hm.1, a4 hm.1, a5 hm.1]
    exact ⟨v1, v2, bi_mono hm.2 (fun y I2 A2 hy => ⟨fun _ => nx _ _ hy.2, fun q => absurd hy.1.symm q⟩)⟩
  | 14, _ =>
    refine t_X_law_33s14 _ ?_
    simp only [sz h11, a1 h11, a2 h11, a3 h11, a4 h11, a5 h11]
    refine ⟨v1, bi_mono (u_least (by omega) h (xs (i + 1))) (fun z I1 A1 hm => ?_)⟩
    simp only [sz hm.1, a1 hm.1, a2 hm.1, a3 hm.1, a4 hm.1, a5 hm.1]
    exact ⟨v1, bi_mono hm.2 (fun y I2 A2 hy => ⟨fun _ => nx _ _ hy.2, fun q => absurd hy.1.symm q⟩)⟩
  | 15, _ =>
    refine t_X_law_33s15 _ ?_
    simp only [sz h11, a1 h11, a2 h11, a3 h11, a4 h11, a5 h11]
    refine ⟨v1, v2, bi_mono (u_part (by omega) h (xs (i + 1)) (xs (i + 2))) (fun z I1 A1 hm => ?_)⟩
    simp only [sz hm.1, a1 hm.1, a2 hm.1, a3 hm.1, a4 hm.1, a5 hm.1]
    exact ⟨v1, v2, bi_mono hm.2 (fun y I2 A2 hy => ⟨fun _ => nx _ _ hy.2, fun q => absurd hy.1.symm q⟩)⟩
  | 16, _ =>
    refine t_X_law_33s16 _ ?_
    simp only [sz h11, a1 h11, a2 h11, a3 h11, a4 h11, a5 h11]
    refine ⟨v1, v2, bi_mono (u_key (by omega) h (xs (i + 1)) (xs (i + 2))) (fun z I1 A1 hm => ?_)⟩
    simp only [sz hm.1, a1 hm.1, a2 hm.1, a3 hm.1, a4 hm.1, a5 hm.1]
    exact ⟨v1, v2, bi_mono hm.2 (fun y I2 A2 hy => ⟨fun _ => nx _ _ hy.2, fun q => absurd hy.1.symm q⟩)⟩
  | 17, _ =>
    refine t_X_law_33s17 _ ?_
    simp only [sz h11, a1 h11, a2 h11, a3 h11, a4 h11, a5 h11]
    refine ⟨v1, bi_mono (u_text (by omega) h (xs (i + 1))) (fun z I1 A1 hm => ?_)⟩
    simp only [sz hm.1, a1 hm.1, a2 hm.1, a3 hm.1, a4 hm.1, a5 hm.1]
    exact ⟨v1, bi_mono hm.2 (fun y I2 A2 hy => ⟨fun _ => nx _ _ hy.2, fun q => absurd hy.1.symm q⟩)⟩
  | 18, _ =>
    refine t_X_law_33s18 _ ?_
    simp only [sz h11, a1 h11, a2 h11, a3 h11, a4 h11, a5 h11]
    refine ⟨v1, v2, bi_mono (u_token (by omega) h (xs (i + 1)) (xs (i + 2))) (fun z I1 A1 hm => ?_)⟩
    simp only [sz hm.1, a1 hm.1, a2 hm.1, a3 hm.1, a4 hm.1, a5 hm.1]
    exact ⟨v1, v2, bi_mono hm.2 (fun y I2 A2 hy => ⟨fun _ => nx _ _ hy.2, fun q => absurd hy.1.symm q⟩)⟩
  | 19, _ =>
    refine t_X_law_33s19 _ ?_
    simp only [sz h11, a1 h11, a2 h11, a3 h11, a4 h11, a5 h11]
    refine ⟨v1, bi_mono (u_told (by omega) h (xs (i + 1))) (fun z I1 A1 hm => ?_)⟩
    simp only [sz hm.1, a1 hm.1, a2 hm.1, a3 hm.1, a4 hm.1, a5 hm.1]
    exact ⟨v1, bi_mono hm.2 (fun y I2 A2 hy => ⟨fun _ => nx _ _ hy.2, fun q => absurd hy.1.symm q⟩)⟩
  | j + 20, hj => exact absurd hj (by omega)
theorem law_loop {L : Nat} (hL : L ≤ 3072) {xs : Nat → Int32} : ∀ n i I A, L < i + 6 * n + 6 → i ≤ 4000 → Sim L xs I A → ev_Bi 14 190 18 [some (.ref 502), some (.ref 1000), some (.ref 1033), some (.int (nI i))] I A (fun z _ _ => z = 1) := by
  have stop : ∀ i (I A : Nat → Nat → Int32), L < i + 6 → i ≤ 4000 → Sim L xs I A → ev_Bi 14 190 18 [some (.ref 502), some (.ref 1000), some (.ref 1033), some (.int (nI i))] I A (fun z _ _ => z = 1) := fun i I A hi h4 ⟨t, ws, o, h⟩ => by
    have h11 := Sm_S11 h
    have sz : (I 502 0 : Int32).toNatClampNeg = L := by rw [h11.1, ncl]
    refine t_X_law_18 (d := 13) _ ?_
    rw [sz]
    refine ct ?_ rfl
    by_cases c : 6 ≤ L
    · have e6 : Int32.ofNat L - 6 = nI (L - 6) := nI_sub (a := L) (b := 6) c
      rw [e6]
      exact ult (by omega)
    · have q : nI L - nI 6 < 0 := nI_subneg (by omega) (by omega)
      exact Int32.lt_of_lt_of_le q nge
  intro n
  induction n with
  | zero =>
    intro i I A hi h4 h
    exact stop i I A (by omega) h4 h
  | succ n ih =>
    intro i I A hi h4 hs
    by_cases c : L < i + 6
    · exact stop i I A c h4 hs
    obtain ⟨t, ws, o, h⟩ := hs
    have h11 := Sm_S11 h
    have sz : (I 502 0 : Int32).toNatClampNeg = L := by rw [h11.1, ncl]
    have nx : ∀ I' A', Sim L xs I' A' → ev_Bi 14 190 822 [some (.ref 502), some (.ref 1000), some (.ref 1033), some (.int (nI i))] I' A' (fun z _ _ => z = 1) := fun I' A' h' => by
      refine t_X_law_822 (d := 13) _ ?_
      have e6 : nI i + 6 = nI (i + 6) := nI_add i 6
      rw [e6]
      exact ih (i + 6) I' A' (by omega) (by omega) h'
    refine t_X_law_18 (d := 13) _ ?_
    have e6 : Int32.ofNat L - 6 = nI (L - 6) := nI_sub (a := L) (b := 6) (by omega)
    rw [sz, e6, ncl, h11.2]
    refine cf (nlt (by omega)) ⟨vin (by omega), ?_⟩
    rcases int_cases (xs i &&& 31) with q | ⟨j, hj, e⟩
    · exact t_X_law_33sd (d := 13) _ _ (.inl (Int32.lt_iff_toInt_lt.mp q)) (nx I A ⟨t, ws, o, h⟩)
    · rw [e]
      by_cases c20 : j < 20
      · exact law_call hL (by omega) h nx j c20
      · refine t_X_law_33sd (d := 13) _ _ (.inr ?_) (nx I A ⟨t, ws, o, h⟩)
        rw [nI_toInt (by omega)]
        omega
theorem ev_main {L : Nat} (hL : L ≤ 3072) (xs : Nat → Int32) : ev_T 14 190 18 [some (.ref 502), some (.ref 1000), some (.ref 1033), some (.int 0)] [] (1057, 55, ev_upd (ev_upd (ev_I0 L) 1023 0 3) 1033 19 3, ev_A0 xs) (ev_Pi (fun z I A => z = 1)) := by
  have hI : ∀ x k, x ≠ 502 → ¬ (x = 1023 ∧ k = 0) → ¬ (x = 1033 ∧ k = 19) → (ev_upd (ev_upd (ev_I0 L) 1023 0 3) 1033 19 3) x k = nI 0 := fun x k h1 h2 h3 => by
    rw [ev_upd_nk h3, ev_upd_nk h2]
    exact if_neg h1
  have hA : ∀ x j, x ≠ 502 → (ev_A0 xs) x j = 0 := fun x j h1 => if_neg h1
  have hB : ∀ M, ev_isL M → bu (ev_upd (ev_upd (ev_I0 L) 1023 0 3) 1033 19 3) (ev_A0 xs) M [] := fun M hM => by
    unfold ev_isL at hM
    exact ⟨hI M 1 (by omega) (by omega) (by omega), by simp, fun j hj => by simp at hj, fun b hb => by simp at hb⟩
  refine law_loop hL (xs := xs) 1000 0 _ _ (by omega) (by omega) ⟨[], [], [], ?_⟩
  refine ⟨⟨⟨hI _ _ (by decide) (by decide) (by decide), by simp, fun j hj => by simp at hj⟩, ⟨hI _ _ (by decide) (by decide) (by decide), by simp, fun j hj => by simp at hj⟩, fun b hb => by simp at hb⟩, ⟨⟨hI _ _ (by decide) (by decide) (by decide), fun i w hi => by simp at hi⟩, ⟨hI _ _ (by decide) (by decide) (by decide), fun i w hi => by simp at hi⟩, ⟨by simp, fun w hw => by simp at hw⟩, List.nodup_nil⟩, fun i hi => by simp at hi, ⟨fun j => .inl (hA _ _ (by decide)), fun j _ _ => hA _ _ (by decide), fun i hi => by simp at hi⟩, ⟨hB _ isL1, ⟨hI _ _ (by decide) (by decide) (by decide), fun j hj => by simp at hj⟩⟩, ⟨0, by omega, hI _ _ (by decide) (by decide) (by decide), hI _ _ (by decide) (by decide) (by decide), fun i hi => by omega⟩, ⟨0, by omega, hI _ _ (by decide) (by decide) (by decide), hI _ _ (by decide) (by decide) (by decide), fun i hi => by omega⟩, ⟨?_, 3, by omega, by omega, ?_⟩, ⟨0, by omega, hI _ _ (by decide) (by decide) (by decide), hI _ _ (by decide) (by decide) (by decide), ?_, fun j hj => by omega⟩, ⟨⟨[], hB _ isL2⟩, [], hB _ isL3⟩, ⟨?_, fun j => if_pos rfl⟩⟩
  · rw [ev_upd_eq, ev_upd_nk (by decide), ev_upd_eq]
  · rw [ev_upd_nk (by decide), ev_upd_eq]
    rfl
  · rw [hI _ _ (by decide) (by decide) (by decide), hI _ _ (by decide) (by decide) (by decide)]
  · rw [ev_upd_nk (by decide), ev_upd_nk (by decide)]
    rfl

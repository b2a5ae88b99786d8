/-! CLASS AND REFERENCE SIDE BY SIDE -/
theorem ev_T.mono {d m k : Nat} {ls : List (Option Value)} {st : List Value} {σ : ev_M} {P P' : Option Value → ev_M → Prop} (h : ev_T d m k ls st σ P) (g : ∀ v σ', P v σ' → P' v σ') : ev_T d m k ls st σ P' := by
  obtain ⟨n, v, σ', h1, h2⟩ := h
  exact ⟨n, v, σ', h1, g _ _ h2⟩
theorem bi_mono {d m k : Nat} {ls : List (Option Value)} {st : List Value} {I A : Nat → Nat → Int32} {K K' : Int32 → (Nat → Nat → Int32) → (Nat → Nat → Int32) → Prop} (h : ev_Bis d m k ls st I A K) (g : ∀ z I A, K z I A → K' z I A) : ev_Bis d m k ls st I A K' :=
  ev_T.mono h (fun v σ' ⟨z, I, A, h1, h2, h3⟩ => ⟨z, I, A, h1, h2, g _ _ _ h3⟩)
theorem bv_mono {d m k : Nat} {ls : List (Option Value)} {st : List Value} {I A : Nat → Nat → Int32} {K K' : (Nat → Nat → Int32) → (Nat → Nat → Int32) → Prop} (h : ev_Bvs d m k ls st I A K) (g : ∀ I A, K I A → K' I A) : ev_Bvs d m k ls st I A K' :=
  ev_T.mono h (fun v σ' ⟨I, A, h1, h2, h3⟩ => ⟨I, A, h1, h2, g _ _ h3⟩)
def tc (I A : Nat → Nat → Int32) (t : List Int32) : Prop := I 1001 1 = nI t.length ∧ t.length ≤ 400 ∧ ∀ j, j < t.length → A 1002 j = t.getD j 0
def tm (I A : Nat → Nat → Int32) (t : List Int32) : Prop := I 1033 1 = nI t.length ∧ t.length ≤ 400 ∧ ∀ j, j < t.length → A 1034 j = t.getD j 0
theorem tc.fx {S : List (Nat × Nat)} {T : List Nat} {I A I' A' : Nat → Nat → Int32} {t : List Int32} (h : tc I A t) (g : fx S T I A I' A') (hS : (1001, 1) ∉ S) (hT : 1002 ∉ T) : tc I' A' t :=
  ⟨(g.1 _ _ hS).trans h.1, h.2.1, fun j hj => (g.2 _ j hT).trans (h.2.2 j hj)⟩
theorem tm.fx {S : List (Nat × Nat)} {T : List Nat} {I A I' A' : Nat → Nat → Int32} {t : List Int32} (h : tm I A t) (g : fx S T I A I' A') (hS : (1033, 1) ∉ S) (hT : 1034 ∉ T) : tm I' A' t :=
  ⟨(g.1 _ _ hS).trans h.1, h.2.1, fun j hj => (g.2 _ j hT).trans (h.2.2 j hj)⟩
abbrev by8 (b : Int32) : Prop := 0 ≤ b ∧ b ≤ 255
abbrev S1 (I A : Nat → Nat → Int32) (t : List Int32) : Prop := tc I A t ∧ tm I A t ∧ ∀ b ∈ t, by8 b
abbrev S2 (I A : Nat → Nat → Int32) (ws : List (List Int32)) : Prop := cw I A ws ∧ mw I A ws ∧ ok ws ∧ ws.Nodup
abbrev nk (ws : List (List Int32)) (x : Int32) : Prop := x = -5 ∨ kn ws x
def S3 (A : Nat → Nat → Int32) (ws : List (List Int32)) : Prop := ∀ i, i < ws.length → A 1039 i = A 1006 i ∧ nk ws (A 1006 i)
abbrev b01 (x : Int32) : Prop := x = 0 ∨ x = 1
def S4 (A : Nat → Nat → Int32) (ws : List (List Int32)) : Prop := (∀ j, b01 (A 1007 j)) ∧ (∀ j, ws.length * 3 ≤ j → j < 450 → A 1007 j = 0) ∧ ∀ i, i < ws.length → A 1038 i = A 1007 (i * 3) + 2 * A 1007 (i * 3 + 1) + 4 * A 1007 (i * 3 + 2)
def ou (I A : Nat → Nat → Int32) (o : List Int32) : Prop := I 1033 3 = nI o.length ∧ ∀ j, j < o.length → A 1035 j = o.getD j 0
abbrev S5 (I A : Nat → Nat → Int32) (o : List Int32) : Prop := bu I A 1008 o ∧ ou I A o
def S6 (I A : Nat → Nat → Int32) (ws : List (List Int32)) (r : Nat) : Prop := r ≤ 40 ∧ I 1012 5 = nI r ∧ I 1033 14 = nI r ∧ ∀ i, i < r → A 1040 i = A 1013 i ∧ kn ws (A 1013 i) ∧ A 1041 i = A 1014 i ∧ A 1042 i = A 1015 i ∧ (∃ g : Nat, g ≤ 8 ∧ A 1015 i = nI g) ∧ A 1043 i = A 1016 i ∧ nk ws (A 1016 i) ∧ A 1044 i = A 1017 i
def S7 (I A : Nat → Nat → Int32) (ws : List (List Int32)) (r : Nat) : Prop := r ≤ 20 ∧ I 1018 3 = nI r ∧ I 1033 18 = nI r ∧ ∀ i, i < r → A 1045 i = A 1019 i ∧ A 1046 i = A 1020 i ∧ kn ws (A 1020 i) ∧ A 1047 i = A 1021 i ∧ nk ws (A 1021 i)
def S8 (I : Nat → Nat → Int32) : Prop := I 1033 19 = I 1023 0 ∧ ∃ l : Nat, 2 ≤ l ∧ l ≤ 12 ∧ I 1023 0 = nI l
def S9 (I A : Nat → Nat → Int32) (k : Nat) : Prop := k ≤ 60 ∧ I 1030 1 = nI k ∧ I 1033 27 = nI k ∧ I 1033 30 = I 1030 2 ∧ ∀ j, j < 5 * k → A 1053 j = A 1031 j
def S10 (I A : Nat → Nat → Int32) : Prop := (∃ a, bu I A 1010 a) ∧ ∃ b, bu I A 1028 b
def S11 (N : Nat) (xs : Nat → Int32) (I A : Nat → Nat → Int32) : Prop := I 502 0 = nI N ∧ ∀ j, A 502 j = xs j
def Sm (N : Nat) (xs : Nat → Int32) (I A : Nat → Nat → Int32) (t : List Int32) (ws : List (List Int32)) (o : List Int32) : Prop :=
  S1 I A t ∧ S2 I A ws ∧ S3 A ws ∧ S4 A ws ∧ S5 I A o ∧ (∃ r, S6 I A ws r) ∧ (∃ r, S7 I A ws r) ∧ S8 I ∧ (∃ k, S9 I A k) ∧ S10 I A ∧ S11 N xs I A
abbrev Sim (N : Nat) (xs : Nat → Int32) (I A : Nat → Nat → Int32) : Prop := ∃ t ws o, Sm N xs I A t ws o
/-- what the class has answered the reference answers too, and both stand side by side again -/
def md (d N : Nat) (xs : Nat → Int32) (m : Nat) (ls : List (Option Value)) (z : Int32) (I A : Nat → Nat → Int32) : Prop := S11 N xs I A ∧ ev_Bi d m 0 ls I A (fun y I' A' => y = z ∧ Sim N xs I' A')
section FX
variable {S : List (Nat × Nat)} {T : List Nat} {I A I' A' : Nat → Nat → Int32} {ws : List (List Int32)} {o : List Int32}
theorem S1.fx {t : List Int32} (h : S1 I A t) (g : fx S T I A I' A') (hS : ∀ p ∈ [(1001, 1), (1033, 1)], p ∉ S) (hT : ∀ p ∈ [1002, 1034], p ∉ T) : S1 I' A' t :=
  ⟨h.1.fx g (hS _ (by simp)) (hT _ (by simp)), h.2.1.fx g (hS _ (by simp)) (hT _ (by simp)), h.2.2⟩
theorem S2.fx (h : S2 I A ws) (g : fx S T I A I' A') (hS : ∀ p ∈ [(1003, 4), (1033, 6)], p ∉ S) (hT : ∀ p ∈ [1004, 1005, 1036, 1037], p ∉ T) : S2 I' A' ws :=
  ⟨h.1.fx g (hS _ (by simp)) (hT _ (by simp)) (hT _ (by simp)), h.2.1.fx g (hS _ (by simp)) (hT _ (by simp)) (hT _ (by simp)), h.2.2⟩
theorem S3.fx (h : S3 A ws) (g : fx S T I A I' A') (hT : ∀ p ∈ [1039, 1006], p ∉ T) : S3 A' ws := fun i hi => by
  rw [g.2 1039 i (hT _ (by simp)), g.2 1006 i (hT _ (by simp))]
  exact h i hi
theorem S4.fx (h : S4 A ws) (g : fx S T I A I' A') (hT : ∀ p ∈ [1007, 1038], p ∉ T) : S4 A' ws := by
  have e1 : ∀ j, A' 1007 j = A 1007 j := fun j => g.2 1007 j (hT _ (by simp))
  have e2 : ∀ j, A' 1038 j = A 1038 j := fun j => g.2 1038 j (hT _ (by simp))
  refine ⟨fun j => by rw [e1]; exact h.1 j, fun j h1 h2 => by rw [e1]; exact h.2.1 j h1 h2, fun i hi => ?_⟩
  rw [e2, e1, e1, e1]
  exact h.2.2 i hi
theorem ou.fx (h : ou I A o) (g : fx S T I A I' A') (hS : (1033, 3) ∉ S) (hT : 1035 ∉ T) : ou I' A' o :=
  ⟨(g.1 _ _ hS).trans h.1, fun j hj => (g.2 _ j hT).trans (h.2 j hj)⟩
theorem S5.fx (h : S5 I A o) (g : fx S T I A I' A') (hS : ∀ p ∈ [(1008, 1), (1033, 3)], p ∉ S) (hT : ∀ p ∈ [1009, 1035], p ∉ T) : S5 I' A' o :=
  ⟨h.1.fx g (hS _ (by simp)) (hT _ (by simp)), h.2.fx g (hS _ (by simp)) (hT _ (by simp))⟩
theorem S6.fx {r : Nat} (h : S6 I A ws r) (g : fx S T I A I' A') (hS : ∀ p ∈ [(1012, 5), (1033, 14)], p ∉ S) (hT : ∀ p ∈ [1013, 1014, 1015, 1016, 1017, 1040, 1041, 1042, 1043, 1044], p ∉ T) : S6 I' A' ws r := by
  refine ⟨h.1, (g.1 _ _ (hS _ (by simp))).trans h.2.1, (g.1 _ _ (hS _ (by simp))).trans h.2.2.1, fun i hi => ?_⟩
  rw [g.2 1013 i (hT _ (by simp)), g.2 1014 i (hT _ (by simp)), g.2 1015 i (hT _ (by simp)), g.2 1016 i (hT _ (by simp)), g.2 1017 i (hT _ (by simp)), g.2 1040 i (hT _ (by simp)), g.2 1041 i (hT _ (by simp)), g.2 1042 i (hT _ (by simp)), g.2 1043 i (hT _ (by simp)), g.2 1044 i (hT _ (by simp))]
  exact h.2.2.2 i hi
theorem S7.fx {r : Nat} (h : S7 I A ws r) (g : fx S T I A I' A') (hS : ∀ p ∈ [(1018, 3), (1033, 18)], p ∉ S) (hT : ∀ p ∈ [1019, 1020, 1021, 1045, 1046, 1047], p ∉ T) : S7 I' A' ws r := by
  refine ⟨h.1, (g.1 _ _ (hS _ (by simp))).trans h.2.1, (g.1 _ _ (hS _ (by simp))).trans h.2.2.1, fun i hi => ?_⟩
  rw [g.2 1019 i (hT _ (by simp)), g.2 1020 i (hT _ (by simp)), g.2 1021 i (hT _ (by simp)), g.2 1045 i (hT _ (by simp)), g.2 1046 i (hT _ (by simp)), g.2 1047 i (hT _ (by simp))]
  exact h.2.2.2 i hi
theorem S8.fx (h : S8 I) (g : fx S T I A I' A') (hS : ∀ p ∈ [(1023, 0), (1033, 19)], p ∉ S) : S8 I' := by
  unfold S8
  rw [g.1 1023 0 (hS _ (by simp)), g.1 1033 19 (hS _ (by simp))]
  exact h
theorem S9.fx {k : Nat} (h : S9 I A k) (g : fx S T I A I' A') (hS : ∀ p ∈ [(1030, 1), (1030, 2), (1033, 27), (1033, 30)], p ∉ S) (hT : ∀ p ∈ [1031, 1053], p ∉ T) : S9 I' A' k := by
  refine ⟨h.1, (g.1 _ _ (hS _ (by simp))).trans h.2.1, (g.1 _ _ (hS _ (by simp))).trans h.2.2.1, ?_, fun i hi => ?_⟩
  · rw [g.1 1030 2 (hS _ (by simp)), g.1 1033 30 (hS _ (by simp))]
    exact h.2.2.2.1
  · rw [g.2 1031 i (hT _ (by simp)), g.2 1053 i (hT _ (by simp))]
    exact h.2.2.2.2 i hi
theorem S10.fx (h : S10 I A) (g : fx S T I A I' A') (hS : ∀ p ∈ [(1010, 1), (1028, 1)], p ∉ S) (hT : ∀ p ∈ [1011, 1029], p ∉ T) : S10 I' A' := by
  obtain ⟨⟨a, ha⟩, b, hb⟩ := h
  exact ⟨⟨a, ha.fx g (hS _ (by simp)) (hT _ (by simp))⟩, b, hb.fx g (hS _ (by simp)) (hT _ (by simp))⟩
theorem S11.fx {N : Nat} {xs : Nat → Int32} (h : S11 N xs I A) (g : fx S T I A I' A') (hS : (502, 0) ∉ S) (hT : 502 ∉ T) : S11 N xs I' A' :=
  ⟨(g.1 _ _ hS).trans h.1, fun j => (g.2 _ j hT).trans (h.2 j)⟩
theorem kn.snoc {u : List Int32} {x : Int32} (h : kn ws x) : kn (ws ++ [u]) x := by
  obtain ⟨i, w, rfl, hi⟩ := h
  exact ⟨i, w, rfl, by rw [List.getElem?_append_left (List.getElem?_eq_some_iff.mp hi).1]; exact hi⟩
theorem nk.snoc {u : List Int32} {x : Int32} (h : nk ws x) : nk (ws ++ [u]) x := h.imp id kn.snoc
theorem S6.snoc {r : Nat} {u : List Int32} (h : S6 I A ws r) : S6 I A (ws ++ [u]) r :=
  ⟨h.1, h.2.1, h.2.2.1, fun i hi => by
    obtain ⟨a1, a2, a3, a4, a5, a6, a7, a8⟩ := h.2.2.2 i hi
    exact ⟨a1, a2.snoc, a3, a4, a5, a6, a7.snoc, a8⟩⟩
theorem S7.snoc {r : Nat} {u : List Int32} (h : S7 I A ws r) : S7 I A (ws ++ [u]) r :=
  ⟨h.1, h.2.1, h.2.2.1, fun i hi => by
    obtain ⟨a1, a2, a3, a4, a5⟩ := h.2.2.2 i hi
    exact ⟨a1, a2, a3.snoc, a4, a5.snoc⟩⟩
/-- nothing that counts has changed -/
abbrev jS : List (Nat × Nat) := [(1018, 5), (1027, 1), (1027, 2), (1027, 3), (1027, 4), (1027, 5), (1030, 4), (1030, 5), (1033, 21), (1033, 29)]
abbrev jT : List Nat := [1022, 1024, 1025, 1026, 1032, 1048, 1049, 1050, 1051, 1052, 1054, 1055, 1056]
theorem Sm_fx {N : Nat} {xs : Nat → Int32} {t : List Int32} (h : Sm N xs I A t ws o) (g : fx jS jT I A I' A') : Sm N xs I' A' t ws o := by
  obtain ⟨h1, h2, h3, h4, h5, ⟨r, h6⟩, ⟨q, h7⟩, h8, ⟨k, h9⟩, h10, h11⟩ := h
  exact ⟨S1.fx h1 g (by decide) (by decide), S2.fx h2 g (by decide) (by decide), h3.fx g (by decide), h4.fx g (by decide), S5.fx h5 g (by decide) (by decide), ⟨r, h6.fx g (by decide) (by decide)⟩, ⟨q, h7.fx g (by decide) (by decide)⟩, h8.fx g (by decide), ⟨k, h9.fx g (by decide) (by decide)⟩, h10.fx g (by decide) (by decide), h11.fx g (by decide) (by decide)⟩
theorem isL1 : ev_isL 1008 := .inl rfl
theorem isL2 : ev_isL 1010 := .inr (.inl rfl)
theorem isL3 : ev_isL 1028 := .inr (.inr rfl)
/-- the work buffer has changed, or junk -/
theorem Sm_wk {N : Nat} {xs : Nat → Int32} {t a : List Int32} (h : Sm N xs I A t ws o) (g : fx ((1010, 1) :: jS) (1011 :: jT) I A I' A') (hb : bu I' A' 1010 a) : Sm N xs I' A' t ws o := by
  obtain ⟨h1, h2, h3, h4, h5, ⟨r, h6⟩, ⟨q, h7⟩, h8, ⟨k, h9⟩, ⟨_, b, h10⟩, h11⟩ := h
  exact ⟨S1.fx h1 g (by decide) (by decide), S2.fx h2 g (by decide) (by decide), h3.fx g (by decide), h4.fx g (by decide), S5.fx h5 g (by decide) (by decide), ⟨r, h6.fx g (by decide) (by decide)⟩, ⟨q, h7.fx g (by decide) (by decide)⟩, h8.fx g (by decide), ⟨k, h9.fx g (by decide) (by decide)⟩, ⟨⟨a, hb⟩, b, h10.fx g (by decide) (by decide)⟩, h11.fx g (by decide) (by decide)⟩
/-- what is shown has changed, the work buffer, or junk -/
theorem Sm_sh {N : Nat} {xs : Nat → Int32} {t a o' : List Int32} (h : Sm N xs I A t ws o) (g : fx ((1008, 1) :: (1033, 3) :: (1010, 1) :: jS) (1009 :: 1035 :: 1011 :: jT) I A I' A') (hb : bu I' A' 1010 a) (hs : bu I' A' 1008 o') (ho : ou I' A' o') : Sm N xs I' A' t ws o' := by
  obtain ⟨h1, h2, h3, h4, h5, ⟨r, h6⟩, ⟨q, h7⟩, h8, ⟨k, h9⟩, ⟨_, b, h10⟩, h11⟩ := h
  exact ⟨S1.fx h1 g (by decide) (by decide), S2.fx h2 g (by decide) (by decide), h3.fx g (by decide), h4.fx g (by decide), ⟨hs, ho⟩, ⟨r, h6.fx g (by decide) (by decide)⟩, ⟨q, h7.fx g (by decide) (by decide)⟩, h8.fx g (by decide), ⟨k, h9.fx g (by decide) (by decide)⟩, ⟨⟨a, hb⟩, b, h10.fx g (by decide) (by decide)⟩, h11.fx g (by decide) (by decide)⟩
end FX

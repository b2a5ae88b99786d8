/-! ROW, AFFIX, WORD -/
def wl (ws : List (List Int32)) (x : Int32) : Nat := if x < 0 then 0 else (ws.getD x.toNatClampNeg []).length
theorem wl_at {ws : List (List Int32)} {i : Nat} {w : List Int32} (ho : ok ws) (hi : ws[i]? = some w) : wl ws (nI i) = w.length := by
  have := ho.at hi
  unfold wl
  rw [if_neg npo, ncl, List.getD_eq_getElem?_getD, hi]
  rfl
theorem wl_5 {ws : List (List Int32)} : wl ws (-5) = 0 := by
  unfold wl
  rw [if_pos (by decide)]
section CTR
variable {d : Nat} {I A : Nat → Nat → Int32} {K : Int32 → (Nat → Nat → Int32) → (Nat → Nat → Int32) → Prop} {V : (Nat → Nat → Int32) → (Nat → Nat → Int32) → Prop} {t u w o : List Int32} {ws : List (List Int32)} {i N : Nat} {xs : Nat → Int32}
theorem wl_kn (ho : ok ws) {x : Int32} (h : kn ws x) : ∃ i w, x = nI i ∧ ws[i]? = some w ∧ wl ws x = w.length ∧ i < 150 ∧ w.length ≤ 24 ∧ 1 ≤ w.length := by
  obtain ⟨i, w, rfl, hi⟩ := h
  have := ho.at hi
  exact ⟨i, w, rfl, hi, wl_at ho hi, by omega, by omega, by omega⟩
theorem c_sizeOfN (hd : 1 ≤ d) (hw : cw I A ws) (ho : ok ws) {x : Int32} (hx : nk ws x) (h : wl ws x ≤ 24 → K (nI (wl ws x)) I A) : ev_Bi d 80 0 [some (.ref 1003), some (.int x)] I A K := by
  rcases hx with rfl | hx
  · refine c_sizeOf_no hd hw ho (kn5 ho) ?_
    rw [wl_5] at h
    exact h (by omega)
  · obtain ⟨i, w, rfl, hi, e, h1, h2, h3⟩ := wl_kn ho hx
    refine c_sizeOf hd hw ho hi ?_
    rw [e] at h
    exact h h2
theorem c_rowC (hd : 2 ≤ d) (hw : cw I A ws) (ho : ok ws) {r : Nat} (h5 : I 1012 5 = nI r) (hr : r ≤ 40) {x1 x2 x3 x4 x5 : Int32} (hb2 : b01 x2) (hb5 : b01 x5)
    (h1 : ¬ (kn ws x1 ∧ nk ws x4) → K (-1) I A)
    (h2 : kn ws x1 → nk ws x4 → (8 < wl ws x1 ∨ 4 < wl ws x4 ∨ x3 < 0 ∨ 8 < x3) → K (-2) I A)
    (h3 : kn ws x1 → nk ws x4 → ¬ (8 < wl ws x1 ∨ 4 < wl ws x4 ∨ x3 < 0 ∨ 8 < x3) → r = 40 → K (-4) I A)
    (h4 : kn ws x1 → nk ws x4 → ¬ (8 < wl ws x1 ∨ 4 < wl ws x4 ∨ x3 < 0 ∨ 8 < x3) → r < 40 → K (nI r) (ev_upd I 1012 5 (nI (r + 1))) (ev_upd (ev_upd (ev_upd (ev_upd (ev_upd A 1013 r x1) 1014 r x2) 1015 r x3) 1016 r x4) 1017 r x5)) :
    ev_Bi d 103 0 [some (.ref 1000), some (.int x1), some (.int x2), some (.int x3), some (.int x4), some (.int x5)] I A K := by
  obtain ⟨d, rfl⟩ : ∃ e, d = e + 1 := ⟨d - 1, by omega⟩
  refine t_S_row_0 _ _ _ _ _ (c_knows hw ho (fun a => z1 (c_knowsOrNone (by omega) hw ho (fun b => z1 ?_) (fun b => z0 (h1 (fun k => b k.2))))) (fun a => z0 (h1 (fun k => a k.1))))
  refine c_sizeOfN (by omega) hw ho (.inr a) (fun l1 => ⟨fun c => h2 a b (.inl ?_), fun c => ?_⟩)
  · have c' : nI 8 < nI (wl ws x1) := c
    rwa [nI_ltI (by omega) (by omega)] at c'
  have c1 : ¬ 8 < wl ws x1 := fun g => c (ult (a := 8) g)
  refine c_sizeOfN (by omega) hw ho b (fun l4 => ⟨fun c => h2 a b (.inr (.inl ?_)), fun c => ?_⟩)
  · have c' : nI 4 < nI (wl ws x4) := c
    rwa [nI_ltI (by omega) (by omega)] at c'
  have c4 : ¬ 4 < wl ws x4 := fun g => c (ult (a := 4) g)
  refine ⟨fun c => h2 a b (.inr (.inr (.inl c))), fun c5 => ⟨fun c6 => ?_, fun c6 => h2 a b (.inr (.inr (.inr (Int32.not_le.mp c6))))⟩⟩
  have hn : ¬ (8 < wl ws x1 ∨ 4 < wl ws x4 ∨ x3 < 0 ∨ 8 < x3) := by
    rintro (g | g | g | g)
    · exact c1 g
    · exact c4 g
    · exact c5 g
    · exact absurd c6 (Int32.not_le.mpr g)
  refine t_H_addRow_0 _ _ _ _ _ ?_
  rw [h5, b01_nar hb2, b01_nar hb5]
  by_cases g : r < 40
  · refine ct (ult (b := 40) g) ⟨vin g, vin g, vin g, vin g, vin g, ?_⟩
    rw [nI_1, nI_pred, ncl]
    exact h4 a b hn g
  · exact cf (nlt (b := 40) (by omega)) (h3 a b hn (by omega))
theorem c_rowM (hd : 2 ≤ d) (hw : mw I A ws) (ho : ok ws) {r : Nat} (h5 : I 1033 14 = nI r) (hr : r ≤ 40) {x1 x2 x3 x4 x5 : Int32} (hb2 : b01 x2) (hb5 : b01 x5)
    (h1 : ¬ (kn ws x1 ∧ nk ws x4) → K (-1) I A)
    (h2 : kn ws x1 → nk ws x4 → (8 < wl ws x1 ∨ 4 < wl ws x4 ∨ x3 < 0 ∨ 8 < x3) → K (-2) I A)
    (h3 : kn ws x1 → nk ws x4 → ¬ (8 < wl ws x1 ∨ 4 < wl ws x4 ∨ x3 < 0 ∨ 8 < x3) → r = 40 → K (-4) I A)
    (h4 : kn ws x1 → nk ws x4 → ¬ (8 < wl ws x1 ∨ 4 < wl ws x4 ∨ x3 < 0 ∨ 8 < x3) → r < 40 → K (nI r) (ev_upd I 1033 14 (nI (r + 1))) (ev_upd (ev_upd (ev_upd (ev_upd (ev_upd A 1040 r x1) 1041 r x2) 1042 r x3) 1043 r x4) 1044 r x5)) :
    ev_Bi d 161 0 [some (.ref 1033), some (.int x1), some (.int x2), some (.int x3), some (.int x4), some (.int x5)] I A K := by
  obtain ⟨d, rfl⟩ : ∃ e, d = e + 1 := ⟨d - 1, by omega⟩
  have main : kn ws x1 → nk ws x4 → ev_Bi (d + 1) 161 26 [some (.ref 1033), some (.int x1), some (.int x2), some (.int x3), some (.int x4), some (.int x5)] I A K := fun a b => by
    obtain ⟨i, w, rfl, hi, e, q1, q2, q3⟩ := wl_kn ho a
    refine t_M_row_26 _ _ _ _ _ ⟨vin (by omega), ?_⟩
    rw [ncl, (hw.2 i w hi).1]
    refine ⟨fun c => h2 a b (.inl ?_), fun c => ?_⟩
    · have c' : nI 8 < nI w.length := c
      rw [nI_ltI (by omega) (by omega)] at c'
      omega
    have c1 : ¬ 8 < wl ws (nI i) := fun g => c (ult (a := 8) (by omega))
    have fin : ¬ 4 < wl ws x4 → ev_Bi (d + 1) 161 55 [some (.ref 1033), some (.int (nI i)), some (.int x2), some (.int x3), some (.int x4), some (.int x5)] I A K := fun c4 => by
      refine t_M_row_55 _ _ _ _ _ (c_beyond (fun c => z1 (h2 a b (.inr (.inr c)))) (fun c => z0 ?_))
      have hn : ¬ (8 < wl ws (nI i) ∨ 4 < wl ws x4 ∨ x3 < 0 ∨ 8 < x3) := by
        rintro (g | g | g)
        · exact c1 g
        · exact c4 g
        · exact c g
      rw [h5, b01_nar hb2, b01_nar hb5]
      by_cases g : r < 40
      · refine cf (neq (b := 40) (by omega)) ⟨vin g, vin g, vin g, vin g, vin g, ?_⟩
        rw [nI_1, nI_pred, ncl]
        exact h4 a b hn g
      · have e40 : r = 40 := by omega
        exact ct (by rw [e40]; rfl) (h3 a b hn e40)
    rcases b with rfl | b
    · refine ct rfl (fin ?_)
      rw [wl_5]
      omega
    · obtain ⟨j, v, rfl, hj, e', q4, q5, q6⟩ := wl_kn ho b
      refine cf nm5 ⟨vin (by omega), ?_⟩
      rw [ncl, (hw.2 j v hj).1]
      refine ⟨fun c => h2 a (.inr b) (.inr (.inl ?_)), fun c => fin (fun g => c (ult (a := 4) (by omega)))⟩
      have c' : nI 4 < nI v.length := c
      rw [nI_ltI (by omega) (by omega)] at c'
      omega
  refine t_M_row_0 _ _ _ _ _ (c_strange (by omega) hw ho (fun a => z1 (h1 (fun k => a k.1))) (fun a => z0 ⟨fun c => main a (.inl c), fun c => c_strange (by omega) hw ho (fun b => z1 (h1 (fun k => ?_))) (fun b => z0 (main a (.inr b)))⟩))
  rcases k.2 with q | q
  · exact c q
  · exact b q
theorem u_row (hd : 2 ≤ d) (h : Sm N xs I A t ws o) (x1 x2 x3 x4 x5 : Int32) (hb2 : b01 x2) (hb5 : b01 x5) : ev_Bi d 103 0 [some (.ref 1000), some (.int x1), some (.int x2), some (.int x3), some (.int x4), some (.int x5)] I A (md d N xs 161 [some (.ref 1033), some (.int x1), some (.int x2), some (.int x3), some (.int x4), some (.int x5)]) := by
  have h11 := Sm_S11 h
  obtain ⟨hcw, hmw, ho, _⟩ := h.2.1
  obtain ⟨r, h6⟩ := h.2.2.2.2.2.1
  refine c_rowC hd hcw ho h6.2.1 h6.1 hb2 hb5 (fun a => ⟨h11, ?_⟩) (fun a b c => ⟨h11, ?_⟩) (fun a b c e => ⟨h11, ?_⟩) (fun a b c e => ?_)
  · exact c_rowM hd hmw ho h6.2.2.1 h6.1 hb2 hb5 (fun _ => ⟨rfl, t, ws, o, h⟩) (fun p q => absurd ⟨p, q⟩ a) (fun p q => absurd ⟨p, q⟩ a) (fun p q => absurd ⟨p, q⟩ a)
  · exact c_rowM hd hmw ho h6.2.2.1 h6.1 hb2 hb5 (fun n => absurd ⟨a, b⟩ n) (fun _ _ _ => ⟨rfl, t, ws, o, h⟩) (fun _ _ n => absurd c n) (fun _ _ n => absurd c n)
  · exact c_rowM hd hmw ho h6.2.2.1 h6.1 hb2 hb5 (fun n => absurd ⟨a, b⟩ n) (fun _ _ n => absurd n c) (fun _ _ _ _ => ⟨rfl, t, ws, o, h⟩) (fun _ _ _ n => absurd n (by omega))
  · have f1 : fx [(1012, 5)] [1013, 1014, 1015, 1016, 1017] I A (ev_upd I 1012 5 (nI (r + 1))) (ev_upd (ev_upd (ev_upd (ev_upd (ev_upd A 1013 r x1) 1014 r x2) 1015 r x3) 1016 r x4) 1017 r x5) :=
      fx.tr (fx.iu (by simp)) (fx.tr (fx.au (by simp)) (fx.tr (fx.au (by simp)) (fx.tr (fx.au (by simp)) (fx.tr (fx.au (by simp)) (fx.au (by simp))))))
    refine ⟨h11.fx f1 (by decide) (by decide), c_rowM hd (hmw.fx f1 (by decide) (by decide) (by decide)) ho (r := r) ?_ h6.1 hb2 hb5 (fun n => absurd ⟨a, b⟩ n) (fun _ _ n => absurd n c) (fun _ _ _ n => absurd e (by omega)) (fun _ _ _ _ => ⟨rfl, t, ws, o, ?_⟩)⟩
    · rw [f1.1 _ _ (by decide)]
      exact h6.2.2.1
    · have f2 := fx.tr (f1.sub (S' := [(1012, 5), (1033, 14)]) (T' := [1013, 1014, 1015, 1016, 1017, 1040, 1041, 1042, 1043, 1044]) (by decide) (by decide)) (fx.tr (fx.iu (x := 1033) (k := 14) (v := nI (r + 1)) (by decide)) (fx.tr (fx.au (x := 1040) (k := r) (v := x1) (by decide)) (fx.tr (fx.au (x := 1041) (k := r) (v := x2) (by decide)) (fx.tr (fx.au (x := 1042) (k := r) (v := x3) (by decide)) (fx.tr (fx.au (x := 1043) (k := r) (v := x4) (by decide)) (fx.au (x := 1044) (k := r) (v := x5) (by decide)))))))
      obtain ⟨h1, h2, h3, h4, h5, _, ⟨q, h7⟩, h8, ⟨k, h9⟩, h10, h11⟩ := h
      refine ⟨S1.fx h1 f2 (by decide) (by decide), S2.fx h2 f2 (by decide) (by decide), h3.fx f2 (by decide), h4.fx f2 (by decide), S5.fx h5 f2 (by decide) (by decide), ⟨r + 1, by omega, ?_, ?_, fun j hj => ?_⟩, ⟨q, h7.fx f2 (by decide) (by decide)⟩, h8.fx f2 (by decide), ⟨k, h9.fx f2 (by decide) (by decide)⟩, h10.fx f2 (by decide) (by decide), h11.fx f2 (by decide) (by decide)⟩
      · rw [ev_upd_nk (by decide), ev_upd_eq]
      · rw [ev_upd_eq]
      · have eq : ∀ x, ev_upd (ev_upd (ev_upd (ev_upd (ev_upd (ev_upd (ev_upd (ev_upd (ev_upd (ev_upd A 1013 r x1) 1014 r x2) 1015 r x3) 1016 r x4) 1017 r x5) 1040 r x1) 1041 r x2) 1042 r x3) 1043 r x4) 1044 r x5 x j = if j = r then (if x = 1044 then x5 else if x = 1043 then x4 else if x = 1042 then x3 else if x = 1041 then x2 else if x = 1040 then x1 else if x = 1017 then x5 else if x = 1016 then x4 else if x = 1015 then x3 else if x = 1014 then x2 else if x = 1013 then x1 else A x j) else A x j := by
          intro x
          unfold ev_upd
          by_cases cj : j = r
          · simp only [cj, if_true]
          · simp only [cj, if_false, ite_self]
        simp only [eq]
        by_cases cj : j = r
        · simp only [cj, if_true]
          refine ⟨rfl, a, rfl, rfl, ?_, rfl, b, rfl⟩
          have g0 : ¬ x3 < 0 := fun n => c (.inr (.inr (.inl n)))
          have g8 : ¬ 8 < x3 := fun n => c (.inr (.inr (.inr n)))
          obtain ⟨g, hg, rfl⟩ := nI_of g0
          have g8' : ¬ nI 8 < nI g := g8
          rw [nI_ltI (by omega) hg] at g8'
          exact ⟨g, by omega, rfl⟩
        · simp only [cj, if_false]
          exact h6.2.2.2 j (by omega)
theorem c_affixC (hd : 2 ≤ d) (hw : cw I A ws) (ho : ok ws) {r : Nat} (h5 : I 1018 3 = nI r) (hr : r ≤ 20) {x1 x2 x3 : Int32} (hb1 : b01 x1)
    (h1 : ¬ (kn ws x2 ∧ nk ws x3) → K (-1) I A)
    (h2 : kn ws x2 → nk ws x3 → (8 < wl ws x2 ∨ 8 < wl ws x3) → K (-2) I A)
    (h3 : kn ws x2 → nk ws x3 → ¬ (8 < wl ws x2 ∨ 8 < wl ws x3) → r = 20 → K (-4) I A)
    (h4 : kn ws x2 → nk ws x3 → ¬ (8 < wl ws x2 ∨ 8 < wl ws x3) → r < 20 → K (nI r) (ev_upd I 1018 3 (nI (r + 1))) (ev_upd (ev_upd (ev_upd A 1019 r x1) 1020 r x2) 1021 r x3)) :
    ev_Bi d 105 0 [some (.ref 1000), some (.int x1), some (.int x2), some (.int x3)] I A K := by
  obtain ⟨d, rfl⟩ : ∃ e, d = e + 1 := ⟨d - 1, by omega⟩
  refine t_S_affix_0 _ _ _ (c_knows hw ho (fun a => z1 (c_knowsOrNone (by omega) hw ho (fun b => z1 ?_) (fun b => z0 (h1 (fun k => b k.2))))) (fun a => z0 (h1 (fun k => a k.1))))
  refine c_sizeOfN (by omega) hw ho (.inr a) (fun l1 => ⟨fun c => h2 a b (.inl ?_), fun c => ?_⟩)
  · have c' : nI 8 < nI (wl ws x2) := c
    rwa [nI_ltI (by omega) (by omega)] at c'
  have c1 : ¬ 8 < wl ws x2 := fun g => c (ult (a := 8) g)
  refine c_sizeOfN (by omega) hw ho b (fun l4 => ⟨fun c => ?_, fun c => h2 a b (.inr ?_)⟩)
  · have c' : nI (wl ws x3) ≤ nI 8 := c
    rw [nI_leI (by omega) (by omega)] at c'
    have hn : ¬ (8 < wl ws x2 ∨ 8 < wl ws x3) := by omega
    refine t_B_addAffix_0 _ _ _ ?_
    rw [h5, b01_nar hb1]
    by_cases g : r < 20
    · refine ct (ult (b := 20) g) ⟨vin g, vin g, vin g, ?_⟩
      rw [nI_1, nI_pred, ncl]
      exact h4 a b hn g
    · exact cf (nlt (b := 20) (by omega)) (h3 a b hn (by omega))
  · rcases Nat.lt_or_ge 8 (wl ws x3) with g | g
    · exact g
    · exact absurd (ule (b := 8) g) c
theorem c_affixM (hd : 2 ≤ d) (hw : mw I A ws) (ho : ok ws) {r : Nat} (h5 : I 1033 18 = nI r) (hr : r ≤ 20) {x1 x2 x3 : Int32} (hb1 : b01 x1)
    (h1 : ¬ (kn ws x2 ∧ nk ws x3) → K (-1) I A)
    (h2 : kn ws x2 → nk ws x3 → (8 < wl ws x2 ∨ 8 < wl ws x3) → K (-2) I A)
    (h3 : kn ws x2 → nk ws x3 → ¬ (8 < wl ws x2 ∨ 8 < wl ws x3) → r = 20 → K (-4) I A)
    (h4 : kn ws x2 → nk ws x3 → ¬ (8 < wl ws x2 ∨ 8 < wl ws x3) → r < 20 → K (nI r) (ev_upd I 1033 18 (nI (r + 1))) (ev_upd (ev_upd (ev_upd A 1045 r x1) 1046 r x2) 1047 r x3)) :
    ev_Bi d 163 0 [some (.ref 1033), some (.int x1), some (.int x2), some (.int x3)] I A K := by
  obtain ⟨d, rfl⟩ : ∃ e, d = e + 1 := ⟨d - 1, by omega⟩
  have main : kn ws x2 → nk ws x3 → ev_Bi (d + 1) 163 24 [some (.ref 1033), some (.int x1), some (.int x2), some (.int x3)] I A K := fun a b => by
    obtain ⟨i, w, rfl, hi, e, q1, q2, q3⟩ := wl_kn ho a
    refine t_M_affix_24 _ _ _ ⟨vin (by omega), ?_⟩
    rw [ncl, (hw.2 i w hi).1]
    refine ⟨fun c => h2 a b (.inl ?_), fun c => ?_⟩
    · have c' : nI 8 < nI w.length := c
      rw [nI_ltI (by omega) (by omega)] at c'
      omega
    have c1 : ¬ 8 < wl ws (nI i) := fun g => c (ult (a := 8) (by omega))
    have fin : ¬ 8 < wl ws x3 → ev_Bi (d + 1) 163 55 [some (.ref 1033), some (.int x1), some (.int (nI i)), some (.int x3)] I A K := fun c4 => by
      refine t_M_affix_55 _ _ _ ?_
      have hn : ¬ (8 < wl ws (nI i) ∨ 8 < wl ws x3) := by omega
      rw [h5, b01_nar hb1]
      by_cases g : r < 20
      · refine cf (neq (b := 20) (by omega)) ⟨vin g, vin g, vin g, ?_⟩
        rw [nI_1, nI_pred, ncl]
        exact h4 a b hn g
      · have e40 : r = 20 := by omega
        exact ct (by rw [e40]; rfl) (h3 a b hn e40)
    rcases b with rfl | b
    · refine ct rfl (fin ?_)
      rw [wl_5]
      omega
    · obtain ⟨j, v, rfl, hj, e', q4, q5, q6⟩ := wl_kn ho b
      refine cf nm5 ⟨vin (by omega), ?_⟩
      rw [ncl, (hw.2 j v hj).1]
      by_cases c : v.length ≤ 8
      · exact ct (ule (b := 8) c) (fin (by omega))
      · exact cf (nle (b := 8) (by omega)) (h2 a (.inr b) (.inr (by omega)))
  refine t_M_affix_0 _ _ _ (c_strange (by omega) hw ho (fun a => z1 (h1 (fun k => a k.1))) (fun a => z0 ⟨fun c => main a (.inl c), fun c => c_strange (by omega) hw ho (fun b => z1 (h1 (fun k => ?_))) (fun b => z0 (main a (.inr b)))⟩))
  rcases k.2 with q | q
  · exact c q
  · exact b q
theorem u_affix (hd : 2 ≤ d) (h : Sm N xs I A t ws o) (x1 x2 x3 : Int32) (hb1 : b01 x1) : ev_Bi d 105 0 [some (.ref 1000), some (.int x1), some (.int x2), some (.int x3)] I A (md d N xs 163 [some (.ref 1033), some (.int x1), some (.int x2), some (.int x3)]) := by
  have h11 := Sm_S11 h
  obtain ⟨hcw, hmw, ho, _⟩ := h.2.1
  obtain ⟨r, h6⟩ := h.2.2.2.2.2.2.1
  refine c_affixC hd hcw ho h6.2.1 h6.1 hb1 (fun a => ⟨h11, ?_⟩) (fun a b c => ⟨h11, ?_⟩) (fun a b c e => ⟨h11, ?_⟩) (fun a b c e => ?_)
  · exact c_affixM hd hmw ho h6.2.2.1 h6.1 hb1 (fun _ => ⟨rfl, t, ws, o, h⟩) (fun p q => absurd ⟨p, q⟩ a) (fun p q => absurd ⟨p, q⟩ a) (fun p q => absurd ⟨p, q⟩ a)
  · exact c_affixM hd hmw ho h6.2.2.1 h6.1 hb1 (fun n => absurd ⟨a, b⟩ n) (fun _ _ _ => ⟨rfl, t, ws, o, h⟩) (fun _ _ n => absurd c n) (fun _ _ n => absurd c n)
  · exact c_affixM hd hmw ho h6.2.2.1 h6.1 hb1 (fun n => absurd ⟨a, b⟩ n) (fun _ _ n => absurd n c) (fun _ _ _ _ => ⟨rfl, t, ws, o, h⟩) (fun _ _ _ n => absurd n (by omega))
  · have f1 : fx [(1018, 3)] [1019, 1020, 1021] I A (ev_upd I 1018 3 (nI (r + 1))) (ev_upd (ev_upd (ev_upd A 1019 r x1) 1020 r x2) 1021 r x3) :=
      fx.tr (fx.iu (by simp)) (fx.tr (fx.au (by simp)) (fx.tr (fx.au (by simp)) (fx.au (by simp))))
    refine ⟨h11.fx f1 (by decide) (by decide), c_affixM hd (hmw.fx f1 (by decide) (by decide) (by decide)) ho (r := r) ?_ h6.1 hb1 (fun n => absurd ⟨a, b⟩ n) (fun _ _ n => absurd n c) (fun _ _ _ n => absurd e (by omega)) (fun _ _ _ _ => ⟨rfl, t, ws, o, ?_⟩)⟩
    · rw [f1.1 _ _ (by decide)]
      exact h6.2.2.1
    · have f2 := fx.tr (f1.sub (S' := [(1018, 3), (1033, 18)]) (T' := [1019, 1020, 1021, 1045, 1046, 1047]) (by decide) (by decide)) (fx.tr (fx.iu (x := 1033) (k := 18) (v := nI (r + 1)) (by decide)) (fx.tr (fx.au (x := 1045) (k := r) (v := x1) (by decide)) (fx.tr (fx.au (x := 1046) (k := r) (v := x2) (by decide)) (fx.au (x := 1047) (k := r) (v := x3) (by decide)))))
      obtain ⟨h1, h2, h3, h4, h5, ⟨q, h7⟩, _, h8, ⟨k, h9⟩, h10, h11⟩ := h
      refine ⟨S1.fx h1 f2 (by decide) (by decide), S2.fx h2 f2 (by decide) (by decide), h3.fx f2 (by decide), h4.fx f2 (by decide), S5.fx h5 f2 (by decide) (by decide), ⟨q, h7.fx f2 (by decide) (by decide)⟩, ⟨r + 1, by omega, ?_, ?_, fun j hj => ?_⟩, h8.fx f2 (by decide), ⟨k, h9.fx f2 (by decide) (by decide)⟩, h10.fx f2 (by decide) (by decide), h11.fx f2 (by decide) (by decide)⟩
      · rw [ev_upd_nk (by decide), ev_upd_eq]
      · rw [ev_upd_eq]
      · have eq : ∀ x, ev_upd (ev_upd (ev_upd (ev_upd (ev_upd (ev_upd A 1019 r x1) 1020 r x2) 1021 r x3) 1045 r x1) 1046 r x2) 1047 r x3 x j = if j = r then (if x = 1047 then x3 else if x = 1046 then x2 else if x = 1045 then x1 else if x = 1021 then x3 else if x = 1020 then x2 else if x = 1019 then x1 else A x j) else A x j := by
          intro x
          unfold ev_upd
          by_cases cj : j = r
          · simp only [cj, if_true]
          · simp only [cj, if_false, ite_self]
        simp only [eq]
        by_cases cj : j = r
        · simp only [cj, if_true]
          exact ⟨rfl, rfl, a, rfl, b⟩
        · simp only [cj, if_false]
          exact h6.2.2.2 j (by omega)
end CTR

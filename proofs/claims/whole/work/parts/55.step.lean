/-! STEP AND MEASURE -/
section CTR
variable {d : Nat} {I A : Nat → Nat → Int32} {K : Int32 → (Nat → Nat → Int32) → (Nat → Nat → Int32) → Prop} {V : (Nat → Nat → Int32) → (Nat → Nat → Int32) → Prop} {N : Nat} {xs : Nat → Int32} {w t o : List Int32} {ws : List (List Int32)}
theorem c_porter (hd : 6 ≤ d) {last : Nat} (hlast : last ≤ 7) (hr : rb I A w) (h : ∀ I' A', rb I' A' (por last w) → fq I A I' A' → V I' A') : ev_Bv d 151 0 [some (.ref 1033), some (.int (nI last)), none] I A V := by
  obtain ⟨d, rfl⟩ : ∃ e, d = e + 1 := ⟨d - 1, by omega⟩
  have h80 := hr.2.1
  refine t_M_porter_0 _ ?_
  rw [hr.1]
  by_cases c : 2 < w.length
  · rw [por, if_pos c] at h
    refine cf (nle (b := 2) c) ?_
    have loop : ∀ n j I1 A1, j + n = last + 1 → rb I1 A1 (prs w j) → fq I A I1 A1 → ev_Bv (d + 1) 151 10 [some (.ref 1033), some (.int (nI last)), some (.int (nI j))] I1 A1 V := by
      intro n
      induction n with
      | zero =>
        intro j I1 A1 hj r1 f1
        have : j = last + 1 := by omega
        subst this
        exact t_M_porter_10 _ _ (ct (ult (by omega)) (h _ _ r1 f1))
      | succ n ih =>
        intro j I1 A1 hj r1 f1
        refine t_M_porter_10 _ _ (cf (nlt (by omega)) (c_pstep (by omega) (by omega) r1 (fun I2 A2 r2 f2 => ?_)))
        rw [nI_1]
        exact ih (j + 1) I2 A2 (by omega) r2 (f1.tr f2)
    exact loop (last + 1) 0 I A (by omega) hr fx.rf
  · rw [por, if_neg c] at h
    exact ct (ule (b := 2) (by omega)) (h _ _ hr fx.rf)
theorem u_step (hd : 10 ≤ d) (h : Sm N xs I A t ws o) (x y : Int32) : ev_Bi d 99 0 [some (.ref 1000), some (.int x), some (.int y)] I A (md d N xs 157 [some (.ref 1033), some (.int x), some (.int y)]) := by
  obtain ⟨d, rfl⟩ : ∃ e, d = e + 1 := ⟨d - 1, by omega⟩
  have h11 := Sm_S11 h
  obtain ⟨hcw, hmw, ho, _⟩ := h.2.1
  refine t_S_step_0 x y (c_knows hcw ho (fun c => z1 ?_) (fun c => z0 ⟨h11, t_M_step_0 _ _ (c_strange (by omega) hmw ho (fun _ => z1 ⟨rfl, t, ws, o, h⟩) (fun n => absurd n c))⟩))
  obtain ⟨i, w, rfl, hi⟩ := c
  have out : (y < 0 ∨ ¬ y ≤ 7) → md (d + 1) N xs 157 [some (.ref 1033), some (.int (nI i)), some (.int y)] (-2) I A := fun q => by
    refine ⟨h11, t_M_step_0 _ _ (c_strange (by omega) hmw ho (fun n => absurd ⟨i, w, rfl, hi⟩ n) (fun _ => z0 (t_M_beyond_0 _ _ _ ?_)))⟩
    refine ⟨fun _ => z1 ⟨rfl, t, ws, o, h⟩, fun k => ⟨fun k' => ?_, fun _ => z1 ⟨rfl, t, ws, o, h⟩⟩⟩
    rcases q with q | q
    · exact absurd q k
    · exact absurd k' q
  by_cases c0 : y < 0
  · exact ct c0 (out (.inl c0))
  refine cf c0 ?_
  by_cases c7 : y ≤ 7
  · obtain ⟨last, hl, rfl⟩ : ∃ l : Nat, l ≤ 7 ∧ y = nI l := by
      rcases int_cases y with q | ⟨j, hj, rfl⟩
      · exact absurd q c0
      · refine ⟨j, ?_, rfl⟩
        by_cases q : j ≤ 7
        · exact q
        · exact absurd c7 (nle (b := 7) (by omega))
    refine ct c7 (c_copyTo (by omega) isL1 hcw ho hi h.2.2.2.2.1.1 (fun I1 A1 b1 f1 => c_run (by omega) isL1 b1 hl (fun I2 A2 b2 f2 => c_size isL1 b2 ⟨(h11.fx f1 (by decide) (by decide)).fx f2 (by decide) (by decide), ?_⟩)))
    have hmw2 := (hmw.fx f1 (by decide) (by decide) (by decide)).fx f2 (by decide) (by decide) (by decide)
    have hk := ho.at hi
    have hb24 := b2.2.1
    refine t_M_step_0 _ _ (c_strange (by omega) hmw2 ho (fun n => absurd ⟨i, w, rfl, hi⟩ n) (fun _ => z0 (t_M_beyond_0 _ _ _ (cf npo (ct (ule (b := 7) hl) (z0 (c_take ho hi hmw2 (fun I3 A3 r3 f3 => c_porter (by omega) hl r3 (fun I4 A4 r4 f4 => c_show (by omega) r4 (fun I5 A5 o5 o5' f5 => ⟨rfl, t, ws, por last w, ?_⟩))))))))))
    have hg : fx ((1008, 1) :: (1033, 3) :: (1010, 1) :: jS) (1009 :: 1035 :: 1011 :: jT) I A I5 A5 := (f1.sub (by decide) (by decide)).tr ((f2.sub (by decide) (by decide)).tr ((f3.sub (by decide) (by decide)).tr ((f4.sub (by decide) (by decide)).tr (f5.sub (by decide) (by decide)))))
    obtain ⟨a, ha⟩ := h.2.2.2.2.2.2.2.2.2.1.1
    exact Sm_sh h hg (((((ha.fx f1 (by decide) (by decide)).fx f2 (by decide) (by decide)).fx f3 (by decide) (by decide)).fx f4 (by decide) (by decide)).fx f5 (by decide) (by decide)) (((b2.fx f3 (by decide) (by decide)).fx f4 (by decide) (by decide)).fx f5 (by decide) (by decide)) ⟨o5, o5'⟩
  · exact cf c7 (out (.inr c7))
theorem u_measure (hd : 4 ≤ d) (h : Sm N xs I A t ws o) (x : Int32) : ev_Bi d 100 0 [some (.ref 1000), some (.int x)] I A (md d N xs 158 [some (.ref 1033), some (.int x)]) := by
  obtain ⟨d, rfl⟩ : ∃ e, d = e + 1 := ⟨d - 1, by omega⟩
  have h11 := Sm_S11 h
  obtain ⟨hcw, hmw, ho, _⟩ := h.2.1
  refine t_S_measure_0 x (c_knows hcw ho (fun c => z1 ?_) (fun c => z0 ⟨h11, t_M_measure_0 _ (c_strange (by omega) hmw ho (fun _ => z1 ⟨rfl, t, ws, o, h⟩) (fun n => absurd n c))⟩))
  obtain ⟨i, w, rfl, hi⟩ := c
  obtain ⟨a, ha⟩ := h.2.2.2.2.2.2.2.2.2.1.1
  refine c_copyTo (by omega) isL2 hcw ho hi ha (fun I1 A1 b1 f1 => c_consonantsOf (by omega) isL2 b1 (fun z hz => c_size isL2 b1 (c_measureOf (by omega) hz b1.2.1 ⟨h11.fx f1 (by decide) (by decide), ?_⟩)))
  have hmw1 := hmw.fx f1 (by decide) (by decide) (by decide)
  refine t_M_measure_0 _ (c_strange (by omega) hmw1 ho (fun n => absurd ⟨i, w, rfl, hi⟩ n) (fun _ => z0 (c_take ho hi hmw1 (fun I2 A2 r2 f2 => ?_))))
  rw [r2.1]
  refine c_measure0 (by omega) r2 (by omega) ⟨rfl, t, ws, o, ?_⟩
  exact Sm_wk h ((f1.sub (by decide) (by decide)).tr (f2.sub (by decide) (by decide))) (b1.fx f2 (by decide) (by decide))
end CTR

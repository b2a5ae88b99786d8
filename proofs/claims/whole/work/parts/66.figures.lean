/-! KEYS BY FIGURES -/
def fg (c : Int32) : Int32 := ev_figs.getD ((c - 97) : Int32).toNatClampNeg 0
def mfg : List Int32 := [0, 49, 50, 51, 0, 49, 50, 0, 0, 50, 50, 52, 53, 53, 0, 49, 50, 54, 50, 51, 0, 49, 0, 50, 0, 50]
theorem lo_num {c : Int32} (h : lo c) : ∃ n, n < 26 ∧ c = nI (97 + n) := by
  rcases int_cases c with q | ⟨j, hj, rfl⟩
  · have := Int32.lt_of_lt_of_le q (by decide : (0 : Int32) ≤ 97)
    exact absurd h.1 (Int32.not_le.mpr this)
  · have h1 : 97 ≤ j := by
      by_cases q : 97 ≤ j
      · exact q
      · exact absurd h.1 (nle (a := 97) (by omega))
    have h2 : j ≤ 122 := by
      by_cases q : j ≤ 122
      · exact q
      · exact absurd h.2 (nle (b := 122) (by omega))
    exact ⟨j - 97, by omega, by rw [Nat.add_sub_cancel' h1]⟩
set_option maxRecDepth 100000 in
theorem fg_all : ∀ n : Fin 26, ev_fit 3 (fg (nI (97 + n.val))) = true ∧ mfg.getD n.val 0 = (if fg (nI (97 + n.val)) = 48 then 0 else fg (nI (97 + n.val))) ∧ fg (nI (97 + n.val)) ≠ 0 ∧ (nI (97 + n.val) = 104 ∨ nI (97 + n.val) = 119 → fg (nI (97 + n.val)) = 48) := by decide +kernel
theorem fg_hw {c : Int32} (h : c = 104 ∨ c = 119) : fg c = 48 := by
  rcases h with rfl | rfl <;> decide +kernel
abbrev rfg (c : Int32) : Int32 := if fg c = 48 then 0 else fg c
/-- the figures behind the first letter, and the last one's figure -/
def fl (w : List Int32) : Nat → List Int32 × Int32
  | 0 => ([w.getD 0 0], fg (w.getD 0 0))
  | n + 1 => if w.getD (n + 1) 0 = 104 ∨ w.getD (n + 1) 0 = 119 then fl w n
    else if fg (w.getD (n + 1) 0) ≠ 48 ∧ fg (w.getD (n + 1) 0) ≠ (fl w n).2 then ((fl w n).1 ++ [fg (w.getD (n + 1) 0)], fg (w.getD (n + 1) 0))
    else ((fl w n).1, fg (w.getD (n + 1) 0))
theorem fl_len {w : List Int32} : ∀ n, 1 ≤ (fl w n).1.length ∧ (fl w n).1.length ≤ n + 1
  | 0 => by simp [fl]
  | n + 1 => by
    have := fl_len (w := w) n
    rw [fl]
    split
    · omega
    · split
      · simp only [List.length_append, List.length_cons, List.length_nil]
        omega
      · simp only
        omega
theorem fl_pre {w : List Int32} {n : Nat} : ∀ m, (fl w n).1 <+: (fl w (n + m)).1
  | 0 => List.prefix_rfl
  | m + 1 => by
    have h := fl_pre (w := w) (n := n) m
    rw [← Nat.add_assoc, fl]
    split
    · exact h
    · split
      · exact List.IsPrefix.trans h (List.prefix_append _ _)
      · exact h
def fgs (w : List Int32) : List Int32 := (fl w (w.length - 1)).1.take 4 ++ List.replicate (4 - ((fl w (w.length - 1)).1.take 4).length) 48
abbrev kS : List (Nat × Nat) := [(1033, 3)]
abbrev kT : List Nat := [1035]
theorem ou_add {I A : Nat → Nat → Int32} {o : List Int32} {c : Int32} (h : ou I A o) : ou (ev_upd I 1033 3 (nI (o.length + 1))) (ev_upd A 1035 o.length c) (o ++ [c]) := by
  refine ⟨by rw [ev_upd_eq]; simp, fun j hj => ?_⟩
  simp at hj
  rw [ev_upd_at, getD_app]
  by_cases c' : j = o.length
  · rw [if_pos c', if_neg (by omega), c', Nat.sub_self]
    rfl
  · rw [if_neg c', if_pos (by omega)]
    exact h.2 j (by omega)
theorem ou_cut {I A : Nat → Nat → Int32} {o : List Int32} {m : Nat} (h : ou I A o) (hm : m ≤ o.length) : ou (ev_upd I 1033 3 (nI m)) A (o.take m) := by
  refine ⟨by rw [ev_upd_eq, List.length_take, Nat.min_eq_left hm], fun j hj => ?_⟩
  rw [List.length_take] at hj
  rw [getD_take (by omega)]
  exact h.2 j (by omega)
theorem rep_snoc {o : List Int32} {k : Nat} {c : Int32} : o ++ List.replicate k c ++ [c] = o ++ List.replicate (k + 1) c := by
  rw [List.append_assoc, List.replicate_succ']
section CTR
variable {d : Nat} {I A : Nat → Nat → Int32} {K : Int32 → (Nat → Nat → Int32) → (Nat → Nat → Int32) → Prop} {V : (Nat → Nat → Int32) → (Nat → Nat → Int32) → Prop} {u w : List Int32}
theorem c_figureOf {c : Int32} (hc : lo c) (h : K (fg c) I A) : ev_Bi d 23 0 [some (.int c)] I A K := by
  obtain ⟨n, hn, rfl⟩ := lo_num hc
  have hf := (fg_all ⟨n, hn⟩).1
  have e1 : nI (97 + n) - 97 = nI n := by
    have : nI (97 + n) - nI 97 = nI (97 + n - 97) := nI_sub (by omega)
    rw [Nat.add_sub_cancel_left] at this
    exact this
  refine t_K_figureOf_0 _ (cf (nlt (b := 97) (by omega)) (cf (nlt (a := 122) (by omega)) ⟨?_, hf, h⟩))
  rw [e1]
  exact vin (by omega)
theorem c_figureN : ∀ n, n < 26 → K (mfg.getD n 0) I A → ev_Bi d 170 0 [some (.int (nI (97 + n)))] I A K
  | 0, _, h => t_M_figure_0 _ (t_M_figure_1sd _ _ (.inl (by decide)) h)
  | 1, _, h => t_M_figure_0 _ (t_M_figure_1s98 _ h)
  | 2, _, h => t_M_figure_0 _ (t_M_figure_1s99 _ h)
  | 3, _, h => t_M_figure_0 _ (t_M_figure_1s100 _ h)
  | 4, _, h => t_M_figure_0 _ (t_M_figure_1s101 _ h)
  | 5, _, h => t_M_figure_0 _ (t_M_figure_1s102 _ h)
  | 6, _, h => t_M_figure_0 _ (t_M_figure_1s103 _ h)
  | 7, _, h => t_M_figure_0 _ (t_M_figure_1s104 _ h)
  | 8, _, h => t_M_figure_0 _ (t_M_figure_1s105 _ h)
  | 9, _, h => t_M_figure_0 _ (t_M_figure_1s106 _ h)
  | 10, _, h => t_M_figure_0 _ (t_M_figure_1s107 _ h)
  | 11, _, h => t_M_figure_0 _ (t_M_figure_1s108 _ h)
  | 12, _, h => t_M_figure_0 _ (t_M_figure_1s109 _ h)
  | 13, _, h => t_M_figure_0 _ (t_M_figure_1s110 _ h)
  | 14, _, h => t_M_figure_0 _ (t_M_figure_1s111 _ h)
  | 15, _, h => t_M_figure_0 _ (t_M_figure_1s112 _ h)
  | 16, _, h => t_M_figure_0 _ (t_M_figure_1s113 _ h)
  | 17, _, h => t_M_figure_0 _ (t_M_figure_1s114 _ h)
  | 18, _, h => t_M_figure_0 _ (t_M_figure_1s115 _ h)
  | 19, _, h => t_M_figure_0 _ (t_M_figure_1s116 _ h)
  | 20, _, h => t_M_figure_0 _ (t_M_figure_1s117 _ h)
  | 21, _, h => t_M_figure_0 _ (t_M_figure_1s118 _ h)
  | 22, _, h => t_M_figure_0 _ (t_M_figure_1s119 _ h)
  | 23, _, h => t_M_figure_0 _ (t_M_figure_1s120 _ h)
  | 24, _, h => t_M_figure_0 _ (t_M_figure_1s121 _ h)
  | 25, _, h => t_M_figure_0 _ (t_M_figure_1s122 _ h)
  | n + 26, hn, _ => absurd hn (by omega)
theorem c_figureM {c : Int32} (hc : lo c) (h : K (rfg c) I A) : ev_Bi d 170 0 [some (.int c)] I A K := by
  obtain ⟨n, hn, rfl⟩ := lo_num hc
  have hf := (fg_all ⟨n, hn⟩).2.1
  refine c_figureN n hn ?_
  rw [hf]
  exact h
theorem c_layFigures (hd : 1 ≤ d) (h1 : 1 ≤ w.length) (hlo : ∀ b ∈ w, lo b) (hb : bu I A 1010 w) (hu : bu I A 1008 u) (h : ∀ I' A', bu I' A' 1010 w → bu I' A' 1008 (fgs w) → fr 1008 I A I' A' → V I' A') : ev_Bv d 21 0 [some (.ref 1010), some (.ref 1008), none, none, none, none] I A V := by
  obtain ⟨d, rfl⟩ : ∃ e, d = e + 1 := ⟨d - 1, by omega⟩
  have h24 := hb.2.1
  have hfit : ∀ {c : Int32}, lo c → ev_fit 3 (fg c) = true := fun {c} hc => by
    obtain ⟨n, hn, rfl⟩ := lo_num hc
    exact (fg_all ⟨n, hn⟩).1
  have pad : ∀ n k I1 A1 x2 o4 o5, k + n = 4 - ((fl w (w.length - 1)).1.take 4).length → bu I1 A1 1010 w → bu I1 A1 1008 ((fl w (w.length - 1)).1.take 4 ++ List.replicate k 48) → fr 1008 I A I1 A1 → ev_Bv (d + 1) 21 99 [some (.ref 1010), some (.ref 1008), some (.int x2), some (.int (nI (((fl w (w.length - 1)).1.take 4).length + k))), o4, o5] I1 A1 V := by
    intro n
    have hl4 : ((fl w (w.length - 1)).1.take 4).length ≤ 4 := by rw [List.length_take]; omega
    induction n with
    | zero =>
      intro k I1 A1 x2 o4 o5 hk b1 b2 f1
      refine t_K_layFigures_99 _ _ _ _ (ct (ule (a := 4) (by omega)) (h _ _ b1 ?_ f1))
      have : k = 4 - ((fl w (w.length - 1)).1.take 4).length := by omega
      rw [this] at b2
      exact b2
    | succ n ih =>
      intro k I1 A1 x2 o4 o5 hk b1 b2 f1
      refine t_K_layFigures_99 _ _ _ _ (cf (nle (a := 4) (by omega)) (c_add isL1 b2 (by rw [List.length_append, List.length_replicate]; omega) (by decide) (fun I2 A2 b3 f2 => ?_)))
      rw [nI_1, Nat.add_assoc]
      rw [rep_snoc] at b3
      exact ih (k + 1) I2 A2 _ _ _ (by omega) (b1.ot f2 isL1 isL2 (by decide)) b3 (f1.tr f2)
  have loop : ∀ n j I1 A1 o4 o5, j + 1 + n = w.length → bu I1 A1 1010 w → bu I1 A1 1008 (fl w j).1 → fr 1008 I A I1 A1 → ev_Bv (d + 1) 21 25 [some (.ref 1010), some (.ref 1008), some (.int (fl w j).2), some (.int (nI (j + 1))), o4, o5] I1 A1 V := by
    intro n
    induction n with
    | zero =>
      intro j I1 A1 o4 o5 hj b1 b2 f1
      have ej : j = w.length - 1 := by omega
      refine t_K_layFigures_25 _ _ _ _ (c_size isL2 b1 (ct (ule (by omega)) (c_shorten (i := 4) isL1 b2 (by omega) (fun I2 A2 b3 f2 => c_size isL1 b3 ?_))))
      rw [ej] at b3 ⊢
      refine pad _ 0 I2 A2 _ _ _ (Nat.zero_add _) (b1.ot f2 isL1 isL2 (by decide)) ?_ (f1.tr f2)
      rw [List.replicate_zero, List.append_nil]
      exact b3
    | succ n ih =>
      intro j I1 A1 o4 o5 hj b1 b2 f1
      have hfl := fl_len (w := w) j
      have hcl : lo (w.getD (j + 1) 0) := hlo _ (getD_mem (by omega))
      have nx : ∀ I2 A2 x4 o5 p, p = fl w (j + 1) → bu I2 A2 1010 w → bu I2 A2 1008 p.1 → fr 1008 I A I2 A2 → ev_Bv (d + 1) 21 83 [some (.ref 1010), some (.ref 1008), some (.int p.2), some (.int (nI (j + 1))), some (.int x4), o5] I2 A2 V := fun I2 A2 x4 o5 p ep b3 b4 f3 => by
        subst ep
        refine t_K_layFigures_83 _ _ _ _ ?_
        rw [nI_1]
        exact ih (j + 1) I2 A2 _ _ (by omega) b3 b4 f3
      refine t_K_layFigures_25 _ _ _ _ (c_size isL2 b1 (cf (nle (by omega)) (c_at isL2 b1 (by omega) ?_)))
      have hw' : (w.getD (j + 1) 0 = 104 ∨ w.getD (j + 1) 0 = 119) → fl w j = fl w (j + 1) := fun q => by
        show _ = if _ then _ else _
        rw [if_pos q]
      refine ⟨fun q => nx _ _ _ _ _ (hw' (.inl q)) b1 b2 f1, fun q1 => ⟨fun q => nx _ _ _ _ _ (hw' (.inr q)) b1 b2 f1, fun q2 => c_figureOf hcl ?_⟩⟩
      have hn : ¬ (w.getD (j + 1) 0 = 104 ∨ w.getD (j + 1) 0 = 119) := fun k => k.elim q1 q2
      have same : ¬ (fg (w.getD (j + 1) 0) ≠ 48 ∧ fg (w.getD (j + 1) 0) ≠ (fl w j).2) → ev_Bv (d + 1) 21 80 [some (.ref 1010), some (.ref 1008), some (.int (fl w j).2), some (.int (nI (j + 1))), some (.int (w.getD (j + 1) 0)), some (.int (fg (w.getD (j + 1) 0)))] I1 A1 V := fun g => by
        refine t_K_layFigures_80 _ _ _ _ (nx I1 A1 _ _ ((fl w j).1, fg (w.getD (j + 1) 0)) ?_ b1 b2 f1)
        show _ = if _ then _ else _
        rw [if_neg hn, if_neg g]
      refine ⟨fun q => same (fun k => k.1 q), fun q3 => ⟨fun q => same (fun k => k.2 q), fun q4 => c_add isL1 b2 (by omega) (hfit hcl) (fun I2 A2 b3 f2 => ?_)⟩⟩
      refine t_K_layFigures_80 _ _ _ _ (nx I2 A2 _ _ ((fl w j).1 ++ [fg (w.getD (j + 1) 0)], fg (w.getD (j + 1) 0)) ?_ (b1.ot f2 isL1 isL2 (by decide)) b3 (f1.tr f2))
      show _ = if _ then _ else _
      rw [if_neg hn, if_pos ⟨q3, q4⟩]
  have h0 : lo (w.getD 0 0) := hlo _ (getD_mem (by omega))
  refine t_K_layFigures_0 (c_shorten0 isL1 hu (fun I1 A1 b1 f1 => ?_))
  have b0 := hb.ot f1 isL1 isL2 (by decide)
  refine c_at (i := 0) isL2 b0 (by omega) (c_add isL1 b1 (by simp) (lo_fit h0) (fun I2 A2 b2 f2 => ?_))
  have b3 := b0.ot f2 isL1 isL2 (by decide)
  refine c_at (i := 0) isL2 b3 (by omega) (c_figureOf h0 ?_)
  exact loop (w.length - 1) 0 I2 A2 _ _ (by omega) b3 b2 (f1.tr f2)
theorem c_keyByFigures (hd : 1 ≤ d) (h1 : 1 ≤ w.length) (hlo : ∀ b ∈ w, lo b) (hr : rb I A w) (h : ∀ I' A', ou I' A' (fgs w) → fx kS kT I A I' A' → K (nI (fgs w).length) I' A') : ev_Bi d 171 0 [some (.ref 1033), none, none, none] I A K := by
  obtain ⟨d, rfl⟩ : ∃ e, d = e + 1 := ⟨d - 1, by omega⟩
  have h80 := hr.2.1
  have pad : ∀ n k (o : List Int32) I1 A1 x1 o2 o3, o = (fl w (w.length - 1)).1.take 4 → k + n = 4 - o.length → ou I1 A1 (o ++ List.replicate k 48) → fx kS kT I A I1 A1 → ev_Bi (d + 1) 171 124 [some (.ref 1033), some (.int x1), o2, o3] I1 A1 K := by
    intro n
    induction n with
    | zero =>
      intro k o I1 A1 x1 o2 o3 eo hk b1 f1
      have hl4 : o.length ≤ 4 := by rw [eo, List.length_take]; omega
      refine t_M_keyByFigures_124 _ _ _ ?_
      rw [b1.1, List.length_append, List.length_replicate]
      refine ct (ule (a := 4) (by omega)) ?_
      have e : o ++ List.replicate k 48 = fgs w := by
        have : k = 4 - o.length := by omega
        rw [this, eo]
        rfl
      rw [e] at b1
      have el : o.length + k = (fgs w).length := by rw [← e]; simp
      rw [el]
      exact h _ _ b1 f1
    | succ n ih =>
      intro k o I1 A1 x1 o2 o3 eo hk b1 f1
      have hl4 : o.length ≤ 4 := by rw [eo, List.length_take]; omega
      have hb := ou_add (c := 48) b1
      rw [rep_snoc] at hb
      refine t_M_keyByFigures_124 _ _ _ ?_
      have hlen : (o ++ List.replicate k (48 : Int32)).length = o.length + k := by rw [List.length_append, List.length_replicate]
      rw [hlen] at hb
      rw [b1.1, hlen, nI_1, ncl]
      refine cf (nle (a := 4) (by omega)) ⟨vin (by omega), ih (k + 1) o _ _ _ _ _ eo (by omega) hb (f1.tr (fx.tr (fx.iu (by simp)) (fx.au (by simp))))⟩
  have pad0 : ∀ (o : List Int32) I1 A1 x1 o2 o3, o = (fl w (w.length - 1)).1.take 4 → ou I1 A1 o → fx kS kT I A I1 A1 → ev_Bi (d + 1) 171 124 [some (.ref 1033), some (.int x1), o2, o3] I1 A1 K := fun o I1 A1 x1 o2 o3 eo b1 f1 => by
    refine pad (4 - o.length) 0 o I1 A1 _ _ _ eo (by omega) ?_ f1
    rw [List.replicate_zero, List.append_nil]
    exact b1
  have loop : ∀ n j I1 A1 o2 o3, j + 1 + n = w.length → (fl w j).1.length ≤ 4 → ou I1 A1 (fl w j).1 → fx kS kT I A I1 A1 → ev_Bi (d + 1) 171 19 [some (.ref 1033), some (.int (nI (j + 1))), o2, o3] I1 A1 K := by
    intro n
    induction n with
    | zero =>
      intro j I1 A1 o2 o3 hj h4 b1 f1
      have r1 : rb I1 A1 w := hr.fx f1 (by decide) (by decide)
      have ej : j = w.length - 1 := by omega
      refine t_M_keyByFigures_19 _ _ _ ?_
      rw [r1.1]
      refine ct (ule (by omega)) (pad0 _ _ _ _ _ _ ?_ b1 f1)
      rw [ej] at h4 ⊢
      rw [List.take_of_length_le h4]
    | succ n ih =>
      intro j I1 A1 o2 o3 hj h4 b1 f1
      have r1 : rb I1 A1 w := hr.fx f1 (by decide) (by decide)
      have hcl : lo (w.getD (j + 1) 0) := hlo _ (getD_mem (by omega))
      refine t_M_keyByFigures_19 _ _ _ ?_
      rw [r1.1, b1.1]
      refine cf (nle (by omega)) ?_
      by_cases c4 : 4 ≤ (fl w j).1.length
      · refine ct (ule (a := 4) c4) (pad0 _ _ _ _ _ _ ?_ b1 f1)
        have hp := fl_pre (w := w) (n := j) (w.length - 1 - j)
        have ej : j + (w.length - 1 - j) = w.length - 1 := by omega
        rw [ej] at hp
        have := List.prefix_iff_eq_take.mp hp
        have e4 : (fl w j).1.length = 4 := by omega
        rw [e4] at this
        exact this
      refine cf (nle (a := 4) (by omega)) ?_
      have e1 : nI (j + 1) - 1 = nI j := nI_sub (a := j + 1) (b := 1) (by omega)
      rw [e1]
      have nx : ∀ I2 A2 x2 x3, (fl w (j + 1)).1.length ≤ 4 → ou I2 A2 (fl w (j + 1)).1 → fx kS kT I A I2 A2 → ev_Bi (d + 1) 171 118 [some (.ref 1033), some (.int (nI (j + 1))), some (.int x2), some (.int x3)] I2 A2 K := fun I2 A2 x2 x3 h5 b2 f2 => by
        refine t_M_keyByFigures_118 _ _ _ ?_
        rw [nI_1]
        exact ih (j + 1) I2 A2 _ _ (by omega) h5 b2 f2
      have stay1 : (¬ (fg (w.getD (j + 1) 0) ≠ 48 ∧ fg (w.getD (j + 1) 0) ≠ (fl w j).2)) → (fl w (j + 1)).1 = (fl w j).1 := fun g => by
        rw [fl]
        split
        · rfl
        · rfl
      have s71 : ∀ b o3, b ≤ j → (fl w j).2 = fg (w.getD b 0) → ev_Bi (d + 1) 171 71 [some (.ref 1033), some (.int (nI (j + 1))), some (.int (nI b)), o3] I1 A1 K := fun b o3 hb eb => by
        have hbl : lo (w.getD b 0) := hlo _ (getD_mem (by omega))
        refine t_M_keyByFigures_71 _ _ _ ⟨vin (by omega), ?_⟩
        rw [ncl, r1.2.2 _ (by omega)]
        refine c_figureM hcl ?_
        by_cases c48 : fg (w.getD (j + 1) 0) = 48
        · have e0 : rfg (w.getD (j + 1) 0) = 0 := if_pos c48
          rw [e0]
          have es := stay1 (fun k => k.1 c48)
          exact z0 (nx _ _ _ _ (by rw [es]; exact h4) (by rw [es]; exact b1) f1)
        · have e0 : rfg (w.getD (j + 1) 0) = fg (w.getD (j + 1) 0) := if_neg c48
          rw [e0]
          have hnz : ¬ fg (w.getD (j + 1) 0) = 0 := by
            obtain ⟨n', hn', ec⟩ := lo_num hcl
            rw [ec]
            exact (fg_all ⟨n', hn'⟩).2.2.1
          refine cf hnz ⟨vin (by omega), ?_⟩
          rw [ncl, r1.2.2 _ (by omega)]
          refine c_figureM hbl ?_
          have heq : (fg (w.getD (j + 1) 0) = rfg (w.getD b 0)) ↔ fg (w.getD (j + 1) 0) = (fl w j).2 := by
            rw [eb]
            unfold rfg
            by_cases cb : fg (w.getD b 0) = 48
            · rw [if_pos cb, cb]
              exact ⟨fun k => absurd k hnz, fun k => absurd k c48⟩
            · rw [if_neg cb]
          refine ⟨fun g => ?_, fun g => ?_⟩
          · have es := stay1 (fun k => k.2 (heq.mp g))
            exact nx _ _ _ _ (by rw [es]; exact h4) (by rw [es]; exact b1) f1
          · have hn : ¬ (w.getD (j + 1) 0 = 104 ∨ w.getD (j + 1) 0 = 119) := fun k => c48 (fg_hw k)
            have es : (fl w (j + 1)).1 = (fl w j).1 ++ [fg (w.getD (j + 1) 0)] := by
              rw [fl, if_neg hn, if_pos ⟨c48, fun k => g (heq.mpr k)⟩]
            have hb2 := ou_add (c := fg (w.getD (j + 1) 0)) b1
            rw [b1.1, nI_1 (fl w j).1.length, ncl]
            refine ⟨vin (by omega), nx _ _ _ _ (by rw [es]; simp; omega) (by rw [es]; exact hb2) (f1.tr (fx.tr (fx.iu (by simp)) (fx.au (by simp))))⟩
      have inner : ∀ b, b ≤ j → (fl w j).2 = (fl w b).2 → ∀ o3, ev_Bi (d + 1) 171 39 [some (.ref 1033), some (.int (nI (j + 1))), some (.int (nI b)), o3] I1 A1 K := by
        intro b
        induction b with
        | zero =>
          intro hb eb o3
          exact t_M_keyByFigures_39 _ _ _ (ct (ule (a := 0) (b := 0) (by omega)) (s71 0 _ (by omega) eb))
        | succ b ihb =>
          intro hb eb o3
          refine t_M_keyByFigures_39 _ _ _ (cf (nle (b := 0) (by omega)) ⟨vin (by omega), ?_⟩)
          rw [ncl, r1.2.2 _ (by omega)]
          have back : (w.getD (b + 1) 0 = 104 ∨ w.getD (b + 1) 0 = 119) → ev_Bi (d + 1) 171 65 [some (.ref 1033), some (.int (nI (j + 1))), some (.int (nI (b + 1))), o3] I1 A1 K := fun q => by
            refine t_M_keyByFigures_65 _ _ _ ?_
            have e2 : nI (b + 1) + (-1) = nI b := by
              have : nI (b + 1) - 1 = nI b := nI_sub (a := b + 1) (b := 1) (by omega)
              rw [← this]
              exact (Int32.sub_eq_add_neg ..).symm
            rw [e2]
            refine ihb (by omega) ?_ _
            rw [eb, fl, if_pos q]
          refine ⟨fun q => back (.inl q), fun q1 => ⟨vin (by omega), fun q => back (.inr q), fun q2 => s71 (b + 1) _ hb ?_⟩⟩
          rw [eb, fl, if_neg (fun k => k.elim q1 q2)]
          split <;> rfl
      exact inner j (by omega) rfl _
  have e0 : (0 : Int32).toNatClampNeg = 0 := by decide
  refine t_M_keyByFigures_0 ⟨vin (n := 0) (by omega), vin (n := 0) (by omega), ?_⟩
  rw [e0, hr.2.2 0 (by omega)]
  refine loop (w.length - 1) 0 _ _ _ _ (by omega) (by simp [fl]) ⟨ev_upd_eq, fun j hj => ?_⟩ (fx.tr (fx.iu (by simp)) (fx.au (by simp)))
  have : j = 0 := by simpa [fl] using hj
  subst this
  rw [ev_upd_eq]
  rfl
end CTR

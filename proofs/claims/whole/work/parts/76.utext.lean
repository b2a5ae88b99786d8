/-! TEXT: class and reference -/
theorem kn.mono {ws ws' : List (List Int32)} {x : Int32} (h : kn ws x) (hw : ws <+: ws') : kn ws' x := by
  obtain ⟨i, w, rfl, hi⟩ := h
  exact ⟨i, w, rfl, pre_get hw hi⟩
theorem nk.mono {ws ws' : List (List Int32)} {x : Int32} (h : nk ws x) (hw : ws <+: ws') : nk ws' x := h.imp id (fun k => k.mono hw)
section CTR
variable {I A I' A' : Nat → Nat → Int32} {ws ws' : List (List Int32)} {N : Nat} {xs : Nat → Int32} {t o : List Int32} {pv mv : Nat → Int32} {pf : Nat → Option (List Int32)}
theorem S6.mono {r : Nat} (h : S6 I A ws r) (hw : ws <+: ws') : S6 I A ws' r :=
  ⟨h.1, h.2.1, h.2.2.1, fun i hi => by
    obtain ⟨a1, a2, a3, a4, a5, a6, a7, a8⟩ := h.2.2.2 i hi
    exact ⟨a1, a2.mono hw, a3, a4, a5, a6, a7.mono hw, a8⟩⟩
theorem S7.mono {r : Nat} (h : S7 I A ws r) (hw : ws <+: ws') : S7 I A ws' r :=
  ⟨h.1, h.2.1, h.2.2.1, fun i hi => by
    obtain ⟨a1, a2, a3, a4, a5⟩ := h.2.2.2 i hi
    exact ⟨a1, a2, a3.mono hw, a4, a5.mono hw⟩⟩
abbrev XS : List (Nat × Nat) := [(1001, 1), (1003, 4), (1010, 1), (1027, 1), (1027, 2), (1027, 3), (1027, 4), (1027, 5), (1028, 1), (1030, 1), (1030, 2), (1030, 4), (1030, 5), (1033, 1), (1033, 6), (1033, 21), (1033, 27), (1033, 29), (1033, 30)]
abbrev XT : List Nat := [1002, 1004, 1005, 1006, 1011, 1029, 1031, 1032, 1036, 1037, 1038, 1039, 1048, 1053, 1054, 1055, 1056]
theorem Sm_txt (h : Sm N xs I A t ws o) (g : fx XS XT I A I' A') (hw : ws <+: ws') (hok : ok ws') (hnd : ws'.Nodup) (hcw : cw I' A' ws') (hmw : mw I' A' ws') (h1 : tc I' A' []) (h2 : tm I' A' []) (h6 : ∀ i, i < ws'.length → A' 1006 i = pv i) (h39 : ∀ i, i < ws'.length → A' 1039 i = pv i) (h38 : ∀ i, i < ws'.length → A' 1038 i = mv i) (hp : par ws pv pf) (hmv : ∀ i, i < ws.length → mv i = A 1038 i) (hmv0 : ∀ i, ws.length ≤ i → mv i = 0) (h9 : ∃ k, S9 I' A' k) {a b : List Int32} (ha : bu I' A' 1010 a) (hb : bu I' A' 1028 b) : Sm N xs I' A' [] ws' o := by
  obtain ⟨_, k2, k3, k4, k5, ⟨r, k6⟩, ⟨q, k7⟩, k8, _, _, k11⟩ := h
  have h150 := hok.1
  have hle := hw.length_le
  refine ⟨⟨h1, h2, fun b hb => absurd hb (by simp)⟩, ⟨hcw, hmw, hok, hnd⟩, fun i hi => ?_, ?_, S5.fx k5 g (by decide) (by decide), ⟨r, (k6.fx g (by decide) (by decide)).mono hw⟩, ⟨q, (k7.fx g (by decide) (by decide)).mono hw⟩, k8.fx g (by decide), h9, ⟨⟨a, ha⟩, b, hb⟩, k11.fx g (by decide) (by decide)⟩
  · rw [h6 i hi, h39 i hi]
    refine ⟨rfl, ?_⟩
    rcases hp.prr hw i with ⟨e, _⟩ | ⟨k, v, e, hk, _⟩
    · exact .inl e
    · exact .inr ⟨k, v, e, hk⟩
  · have e7 : ∀ j, A' 1007 j = A 1007 j := fun j => g.2 1007 j (by decide)
    refine ⟨fun j => by rw [e7]; exact k4.1 j, fun j j1 j2 => by rw [e7]; exact k4.2.1 j (by omega) j2, fun i hi => ?_⟩
    rw [h38 i hi, e7, e7, e7]
    by_cases c : i < ws.length
    · rw [hmv i c]
      exact k4.2.2 i c
    · rw [hmv0 i (by omega), k4.2.1 (i * 3) (by omega) (by omega), k4.2.1 (i * 3 + 1) (by omega) (by omega), k4.2.1 (i * 3 + 2) (by omega) (by omega)]
      decide
theorem cw.pre {n : Int32} (h : cw I A ws') (hw : ws <+: ws') (hn : I' 1003 4 = nI ws.length) (hA : A' = A) : cw I' A' ws := by
  subst hA
  exact ⟨hn, fun i w hi => h.2 i w (pre_get hw hi)⟩
theorem mw.pre (h : mw I A ws') (hw : ws <+: ws') (hn : I' 1033 6 = nI ws.length) : mw I' A ws := ⟨hn, fun i w hi => h.2 i w (pre_get hw hi)⟩
end CTR
section CTR
variable {d : Nat} {I A : Nat → Nat → Int32} {N : Nat} {xs : Nat → Int32} {t o : List Int32} {ws : List (List Int32)}
theorem u_text (hd : 12 ≤ d) (h : Sm N xs I A t ws o) (x : Int32) : ev_Bi d 110 0 [some (.ref 1000), some (.int x), none, none, none] I A (md d N xs 178 [some (.ref 1033), some (.int x), none, none, none, none, none, none, none, none, none]) := by
  have hd' := hd
  obtain ⟨d, rfl⟩ : ∃ e, d = e + 1 := ⟨d - 1, by omega⟩
  have h11 := Sm_S11 h
  obtain ⟨ht, htm, h8⟩ := h.1
  obtain ⟨hcw, hmw, ho, hnd⟩ := h.2.1
  have h400 := ht.2.1
  have hws150 := ho.1
  refine t_S_text_0 _ (c_isStemmer (fun st hst e => z1 ?_) (fun c => z0 (c_keep (j := 0) ht (by omega) (fun I1 A1 t1 f1 => ⟨h11.fx f1 (by decide) (by decide), t_M_text_0 _ (c_beyond (fun _ => z1 ⟨rfl, [], ws, o, ?_⟩) (fun k => absurd c k))⟩))))
  case refine_2 =>
    have f2 : fx [(1033, 1)] [] I1 A1 (ev_upd I1 1033 1 0) A1 := fx.iu (by decide)
    rw [List.take_zero] at t1
    exact Sm_tp h ((f1.sub (by decide) (by decide)).tr (f2.sub (by decide) (by decide))) ⟨t1.fx f2 (by decide) (by decide), ⟨ev_upd_eq, by simp, fun j hj => by simp at hj⟩, fun b hb => absurd hb (by simp)⟩
  subst e
  obtain ⟨r, h6⟩ := h.2.2.2.2.2.1
  obtain ⟨rs, hcr1, hmr1⟩ := h6.rows
  have h3 := h.2.2.1
  have h4 := h.2.2.2.1
  obtain ⟨⟨a, ha⟩, b, hb⟩ := h.2.2.2.2.2.2.2.2.2.1
  obtain ⟨pv, hpv⟩ : ∃ pv : Nat → Int32, pv = fun i => if i < ws.length then A 1006 i else -5 := ⟨_, rfl⟩
  obtain ⟨mv, hmv⟩ : ∃ mv : Nat → Int32, mv = fun i => if i < ws.length then A 1038 i else 0 := ⟨_, rfl⟩
  obtain ⟨pf, hpf⟩ : ∃ pf : Nat → Option (List Int32), pf = fun i => if i < ws.length then (if A 1006 i = -5 then none else ws[(A 1006 i).toNatClampNeg]?) else none := ⟨_, rfl⟩
  obtain ⟨m1, hm1⟩ : ∃ m1 : Nat → Bool, m1 = fun i => !decide (A 1007 (i * 3) = 0) := ⟨_, rfl⟩
  obtain ⟨m2, hm2⟩ : ∃ m2 : Nat → Bool, m2 = fun i => !decide (A 1007 (i * 3 + 1) = 0) := ⟨_, rfl⟩
  have epv : ∀ i, i < ws.length → pv i = A 1006 i := fun i hi => by rw [hpv]; exact if_pos hi
  have emv : ∀ i, i < ws.length → mv i = A 1038 i := fun i hi => by rw [hmv]; exact if_pos hi
  have emv0 : ∀ i, ws.length ≤ i → mv i = 0 := fun i hi => by rw [hmv]; exact if_neg (by omega)
  have hp : par ws pv pf := by
    refine ⟨fun i hi => ?_, fun i hi => ?_⟩
    · rw [hpv, hpf]
      exact ⟨if_neg (by omega), if_neg (by omega)⟩
    · rw [epv i hi, hpf]
      show prr ws (A 1006 i) (if i < ws.length then (if A 1006 i = -5 then none else ws[(A 1006 i).toNatClampNeg]?) else none)
      rw [if_pos hi]
      rcases (h3 i hi).2 with q | ⟨k, v, q, hk⟩
      · rw [if_pos q]
        exact .inl ⟨q, rfl⟩
      · have hk' := ho.at hk
        rw [q, if_neg nm5, ncl, hk]
        exact .inr ⟨k, v, rfl, hk, rfl⟩
  have hb2 : ∀ (x : Int32), x = 0 ↔ (!decide (x = 0)) = false := fun x => by simp
  have hk : mrk ws m1 m2 mv := by
    refine ⟨emv0, fun i hi => ?_⟩
    rw [hm1, hm2]
    by_cases c : i < ws.length
    · rw [emv i c]
      exact ⟨Iff.trans (mark_get (m := 0) h4 c (by omega)) (hb2 _), Iff.trans (mark_get (m := 1) h4 c (by omega)) (hb2 _)⟩
    · rw [emv0 i (by omega)]
      have z0' : A 1007 (i * 3) = 0 := h4.2.1 _ (by omega) (by omega)
      have z1' : A 1007 (i * 3 + 1) = 0 := h4.2.1 _ (by omega) (by omega)
      simp only
      rw [z0', z1']
      decide
  have hcst : cst I A ws ws rs m1 m2 pv := ⟨hcw, ho, hnd, List.prefix_rfl, hcr1, fun i hi => (epv i hi).symm, fun i hi => by rw [hm1, hm2]; exact ⟨hb2 _, hb2 _⟩⟩
  /- the reference, behind the class -/
  have ref : ∀ z I3 A3 u v, fx XS [1002, 1004, 1005, 1006, 1011, 1029, 1031, 1032] I A I3 A3 → I3 1033 1 = nI t.length → (∀ k, (1033, k) ∉ [(1033, 1)] → I3 1033 k = I 1033 k) → tc I3 A3 [] → bu I3 A3 1010 u → bu I3 A3 1028 v → ((txt t st rs m1 m2 pf 400 0 0 0 ws 0 0 [] = none ∧ z = -4 ∧ cw I3 A3 ws ∧ (∀ i, i < ws.length → A3 1006 i = pv i) ∧ fx [(1001, 1), (1003, 4), (1010, 1), (1027, 1), (1027, 2), (1027, 3), (1027, 4), (1027, 5), (1028, 1), (1030, 4), (1030, 5)] [1002, 1004, 1005, 1006, 1011, 1029, 1032] I A I3 A3) ∨ ∃ ws' c' pos' tk', txt t st rs m1 m2 pf 400 0 0 0 ws 0 0 [] = some (ws', c', pos', tk') ∧ z = nI c' ∧ c' ≤ 60 ∧ cst I3 A3 ws ws' rs m1 m2 pv ∧ I3 1030 1 = nI c' ∧ I3 1030 2 = nI pos' ∧ ∀ j, j < 5 * c' → A3 1031 j = tk'.getD j 0) → md (d + 1) N xs 178 [some (.ref 1033), some (.int (nI st)), none, none, none, none, none, none, none, none, none] z I3 A3 := fun z I3 A3 u v f3 hsz hfr tc3 bu3 bv3 hcase => by
    refine ⟨h11.fx f3 (by decide) (by decide), t_M_text_0 _ (c_beyond (fun k => ?_) (fun _ => z0 ?_))⟩
    · rcases k with k | k
      · exact absurd k npo
      · exact absurd k (nlt (b := st) (a := 3) hst)
    have f4 : fx [(1033, 1), (1033, 29)] [] I3 A3 (ev_upd (ev_upd I3 1033 1 0) 1033 29 0) A3 := fx.tr (fx.iu (by decide)) (fx.iu (by decide))
    have e29 : (ev_upd (ev_upd I3 1033 1 0) 1033 29 0) 1033 29 = nI 0 := ev_upd_eq
    have e1 : (ev_upd (ev_upd I3 1033 1 0) 1033 29 0) 1033 1 = 0 := by rw [ev_upd_nk (by decide), ev_upd_eq]
    have e6 : (ev_upd I3 1033 1 0) 1033 6 = nI ws.length := by rw [ev_upd_nk (by decide), hfr 6 (by decide), hmw.1]
    rw [hsz, e6]
    generalize ev_upd (ev_upd I3 1033 1 0) 1033 29 0 = I4 at f4 e29 e1 ⊢
    have g4 : fx XS XT I A I4 A3 := (f3.sub (by decide) (by decide)).tr (f4.sub (by decide) (by decide))
    have f34A : ∀ y j, y ∉ [1002, 1004, 1005, 1006, 1011, 1029, 1031, 1032] → A3 y j = A y j := fun y j hy => f3.2 y j hy
    have i6 : I4 1033 6 = I 1033 6 := by rw [f4.1 1033 6 (by decide), hfr 6 (by decide)]
    have i14 : I4 1033 14 = I 1033 14 := by rw [f4.1 1033 14 (by decide), hfr 14 (by decide)]
    have hm4 : mst I4 A3 ws ws rs pv mv := by
      refine ⟨⟨i6.trans hmw.1, fun i w hi => ⟨(f34A 1037 i (by decide)).trans (hmw.2 i w hi).1, fun j hj => (f34A 1036 _ (by decide)).trans ((hmw.2 i w hi).2 j hj)⟩⟩, ho, hnd, List.prefix_rfl, ⟨i14.trans hmr1.1, hmr1.2.1, fun i q hq => (hmr1.2.2 i q hq).fx f3 (by decide)⟩, fun i hi => ?_, fun i hi => ?_⟩
      · rw [f34A 1039 i (by decide), epv i hi]
        exact (h3 i hi).1
      · rw [f34A 1038 i (by decide), emv i hi]
    have tm4 : tmx A3 t := ⟨h400, fun j hj => (f34A 1034 j (by decide)).trans (htm.2.2 j hj)⟩
    have tk4 : tkm I4 A3 0 [] := ⟨e29, rfl, fun j hj => by omega⟩
    have tc4 : tc I4 A3 [] := tc3.fx f4 (by decide) (by decide)
    have bu4 := bu3.fx f4 (by decide) (by decide)
    have bv4 := bv3.fx f4 (by decide) (by decide)
    generalize hR : txt t st rs m1 m2 pf 400 0 0 0 ws 0 0 [] = R at hcase
    refine (c_textM_l (by omega) hst hp hk h8 h400 tm4 R (fun e ws1 I5 A5 m5 f5 => ?_) (fun ws1 c1 pos1 tk1 e hc1 I5 A5 m5 t5 f5 x5 o6 o7 o8 o9 o10 => ?_) 400).2 t.length 0 0 0 ws 0 0 [] I4 A3 _ _ _ _ _ (by omega) (by omega) (by omega) hm4 tk4 fx.rf (by omega) hR
    · rcases hcase with ⟨_, rfl, cw3, p3, f3'⟩ | ⟨ws', c', pos', tk', e', _⟩
      · refine ⟨rfl, [], ws, o, ?_⟩
        have f6 : fx [(1033, 6)] [] I5 A5 (ev_upd I5 1033 6 (nI ws.length)) A5 := fx.iu (by decide)
        have g45 : fx [(1033, 1), (1033, 29), (1033, 6), (1033, 21)] vT I3 A3 (ev_upd I5 1033 6 (nI ws.length)) A5 := (f4.sub (by decide) (by decide)).tr ((f5.sub (by decide) (by decide)).tr (f6.sub (by decide) (by decide)))
        obtain ⟨a1, a2, a3, a4, a5, a6, a7⟩ := m5
        have hle := a4.length_le
        obtain ⟨k9, h9⟩ := h.2.2.2.2.2.2.2.2.1
        refine Sm_txt (pv := pv) (mv := mv) (pf := pf) h ((f3.sub (by decide) (by decide)).tr (g45.sub (by decide) (by decide))) List.prefix_rfl ho hnd (cw3.fx g45 (by decide) (by decide) (by decide)) (a1.pre a4 ev_upd_eq) (tc3.fx g45 (by decide) (by decide)) ⟨?_, by simp, fun j hj => by simp at hj⟩ (fun i hi => (g45.2 1006 i (by decide)).trans (p3 i hi)) (fun i hi => a6 i (by omega)) (fun i hi => a7 i (by omega)) hp emv emv0 ⟨k9, ?_⟩ (bu3.fx g45 (by decide) (by decide)) (bv3.fx g45 (by decide) (by decide))
        · rw [ev_upd_nk (by decide), f5.1 1033 1 (by decide), e1]
          rfl
        · exact (h9.fx f3' (by decide) (by decide)).fx g45 (by decide) (by decide)
      · rw [e] at e'
        exact absurd e' (by simp)
    · rcases hcase with ⟨e', _⟩ | ⟨ws', c', pos', tk', e', rfl, hc', cst3, k1, k2, k3⟩
      · rw [e] at e'
        exact absurd e' (by simp)
      · rw [e] at e'
        simp only [Option.some.injEq, Prod.mk.injEq] at e'
        obtain ⟨rfl, rfl, rfl, rfl⟩ := e'
        refine c_t425 (by omega) t5 hc1 (fun I6 A6 q1 q2 q3 f6 => ⟨rfl, [], ws1, o, ?_⟩)
        have g46 : fx [(1033, 1), (1033, 29), (1033, 6), (1033, 21), (1033, 27), (1033, 30)] [1036, 1037, 1038, 1039, 1048, 1054, 1055, 1056, 1053] I3 A3 I6 A6 := (f4.sub (by decide) (by decide)).tr ((f5.sub (by decide) (by decide)).tr (f6.sub (by decide) (by decide)))
        obtain ⟨b1, b2, b3, b4, b5, b6, b7⟩ := cst3
        obtain ⟨a1, a2, a3, a4, a5, a6, a7⟩ := m5.fx f6 (by decide) (by decide)
        refine Sm_txt (pv := pv) (mv := mv) (pf := pf) h ((f3.sub (by decide) (by decide)).tr (g46.sub (by decide) (by decide))) b4 b2 b3 (b1.fx g46 (by decide) (by decide) (by decide)) a1 (tc3.fx g46 (by decide) (by decide)) ⟨?_, by simp, fun j hj => by simp at hj⟩ (fun i hi => (g46.2 1006 i (by decide)).trans (b6 i hi)) a6 a7 hp emv emv0 ⟨c1, hc1, ?_, q1, ?_, fun j hj => ?_⟩ (bu3.fx g46 (by decide) (by decide)) (bv3.fx g46 (by decide) (by decide))
        · rw [f6.1 1033 1 (by decide), f5.1 1033 1 (by decide), e1]
          rfl
        · rw [g46.1 1030 1 (by decide), k1]
        · rw [q2, g46.1 1030 2 (by decide), k2]
        · rw [q3 j hj, g46.2 1031 j (by decide), k3 j hj]
  /- the class -/
  refine t_W_count_0 (t_C_begin_0 (t_N_begin_0 ?_))
  rw [hcw.1]
  have f0 : fx tS tT I A (ev_upd (ev_upd (ev_upd (ev_upd (ev_upd I 1027 3 0) 1027 4 0) 1027 5 0) 1030 4 0) 1030 5 0) A := fx.tr (fx.iu (by decide)) (fx.tr (fx.iu (by decide)) (fx.tr (fx.iu (by decide)) (fx.tr (fx.iu (by decide)) (fx.iu (by decide)))))
  have f0' : fx [(1027, 3), (1027, 4), (1027, 5), (1030, 4), (1030, 5)] [] I A (ev_upd (ev_upd (ev_upd (ev_upd (ev_upd I 1027 3 0) 1027 4 0) 1027 5 0) 1030 4 0) 1030 5 0) A := fx.tr (fx.iu (by decide)) (fx.tr (fx.iu (by decide)) (fx.tr (fx.iu (by decide)) (fx.tr (fx.iu (by decide)) (fx.iu (by decide)))))
  have cu0 : cu (ev_upd (ev_upd (ev_upd (ev_upd (ev_upd I 1027 3 0) 1027 4 0) 1027 5 0) 1030 4 0) 1030 5 0) 0 0 0 := by
    refine ⟨?_, ?_, ?_⟩
    · rw [ev_upd_nk (by decide), ev_upd_nk (by decide), ev_upd_nk (by decide), ev_upd_nk (by decide), ev_upd_eq]
      rfl
    · rw [ev_upd_nk (by decide), ev_upd_nk (by decide), ev_upd_nk (by decide), ev_upd_eq]
      rfl
    · rw [ev_upd_nk (by decide), ev_upd_nk (by decide), ev_upd_eq]
      rfl
  have tk0 : tkc (ev_upd (ev_upd (ev_upd (ev_upd (ev_upd I 1027 3 0) 1027 4 0) 1027 5 0) 1030 4 0) 1030 5 0) A 0 0 [] := by
    refine ⟨?_, ev_upd_eq, rfl, fun j hj => by omega⟩
    rw [ev_upd_nk (by decide), ev_upd_eq]
    rfl
  generalize ev_upd (ev_upd (ev_upd (ev_upd (ev_upd I 1027 3 0) 1027 4 0) 1027 5 0) 1030 4 0) 1030 5 0 = I0 at f0 f0' cu0 tk0 ⊢
  refine c_text_l (ws0 := ws) (rs := rs) (m1 := m1) (m2 := m2) (pv := pv) (pf := pf) hd' hst hp h8 (I0 := I) (A0 := A) (txt t st rs m1 m2 pf 400 0 0 0 ws 0 0 []) (fun e ws' u' v' j I1 A1 c1 b1 b2 t1 f1 => ?_) (fun ws' c' pos' tk' e hc' u' v' j I1 A1 c1 b1 b2 t1 k1 f1 => ?_) 400 0 0 0 0 ws 0 0 [] a b I0 A (by omega) (by omega) ⟨by omega, by omega, by omega, fun q => absurd q (by omega)⟩ cu0 (hcst.fx f0' (by decide) (by decide)) (ha.fx f0' (by decide) (by decide)) (hb.fx f0' (by decide) (by decide)) (ht.fx f0' (by decide) (by decide)) tk0 f0 rfl
  · refine t_S_text_93 _ _ _ _ (c_keep (j := 0) t1 (by omega) (fun I2 A2 t2 f2 => z0 (t_W_forgetFrom_0 _ (cf npo ?_))))
    rw [List.take_zero] at t2
    obtain ⟨q1, q2, q3, q4, q5, q6, q7⟩ := c1.fx f2 (by decide) (by decide)
    have hle := q4.length_le
    have h150 := q2.1
    have g12 : fx [(1001, 1), (1003, 4), (1010, 1), (1027, 1), (1027, 2), (1027, 3), (1027, 4), (1027, 5), (1028, 1), (1030, 4), (1030, 5)] [1002, 1004, 1005, 1006, 1011, 1029, 1032] I A I2 A2 := (f1.sub (by decide) (by decide)).tr (f2.sub (by decide) (by decide))
    have bb1 := b1.fx f2 (by decide) (by decide)
    have bb2 := b2.fx f2 (by decide) (by decide)
    rw [q1.1]
    have fin : ∀ I3, fx [(1003, 4)] [] I2 A2 I3 A2 → I3 1003 4 = nI ws.length → md (d + 1) N xs 178 [some (.ref 1033), some (.int (nI st)), none, none, none, none, none, none, none, none, none] (-4) I3 A2 := fun I3 f3 e3 => by
      have g13 := g12.tr (f3.sub (by decide) (by decide) : fx [(1001, 1), (1003, 4), (1010, 1), (1027, 1), (1027, 2), (1027, 3), (1027, 4), (1027, 5), (1028, 1), (1030, 4), (1030, 5)] [1002, 1004, 1005, 1006, 1011, 1029, 1032] I2 A2 I3 A2)
      refine ref (-4) I3 A2 u' v' (g13.sub (by decide) (by decide)) ((g13.1 1033 1 (by decide)).trans htm.1) (fun k _ => g13.1 1033 k (by simp)) (t2.fx f3 (by decide) (by decide)) (bb1.fx f3 (by decide) (by decide)) (bb2.fx f3 (by decide) (by decide)) (.inl ⟨e, rfl, ?_, fun i hi => q6 i (by omega), g13⟩)
      exact ⟨e3, fun i w hi => q1.2 i w (pre_get q4 hi)⟩
    by_cases cl : ws'.length ≤ ws.length
    · refine ct (ule cl) (fin I2 fx.rf ?_)
      have : ws'.length = ws.length := by omega
      rw [q1.1, this]
    · exact cf (nle (by omega)) (fin _ (fx.iu (by decide)) ev_upd_eq)
  · refine t_S_text_93 _ _ _ _ (c_keep (j := 0) t1 (by omega) (fun I2 A2 t2 f2 => z1 (t_N_keep_0 ?_)))
    rw [List.take_zero] at t2
    obtain ⟨k2, k3, k4, k5⟩ := k1.fx f2 (by decide) (by decide)
    have g12 : fx [(1001, 1), (1003, 4), (1010, 1), (1027, 1), (1027, 2), (1027, 3), (1027, 4), (1027, 5), (1028, 1), (1030, 4), (1030, 5)] [1002, 1004, 1005, 1006, 1011, 1029, 1032] I A I2 A2 := (f1.sub (by decide) (by decide)).tr (f2.sub (by decide) (by decide))
    have e5 : nI c' * 5 = nI (5 * c') := by
      rw [Nat.mul_comm]
      exact nI_mul c' 5
    have e0 : (0 : Int32).toNatClampNeg = 0 := by decide
    rw [k2, k3, e5]
    refine ⟨⟨by decide, by decide, npo, by rw [ncl, e0]; omega, by rw [ncl, e0]; omega⟩, t_N_count_0 ?_⟩
    have f3 : fx [(1030, 1), (1030, 2)] [1031] I2 A2 (ev_upd (ev_upd I2 1030 1 (nI c')) 1030 2 (nI pos')) (ev_cp A2 1032 1031 0 0 (nI (5 * c'))) := by
      refine ⟨fun y k hy => ?_, fun y j hy => ?_⟩
      · exact (fx.tr (fx.iu (by decide)) (fx.iu (by decide)) : fx [(1030, 1), (1030, 2)] [1031] I2 A2 (ev_upd (ev_upd I2 1030 1 (nI c')) 1030 2 (nI pos')) A2).1 y k hy
      · exact if_neg (fun q => hy (by rw [q]; simp))
    have ecp : ∀ j, j < 5 * c' → (ev_cp A2 1032 1031 0 0 (nI (5 * c'))) 1031 j = tk'.getD j 0 := fun j hj => by
      show (if 1031 = 1031 then va_cpy (A2 1032) (A2 1031) (0 : Int32).toNatClampNeg (0 : Int32).toNatClampNeg (nI (5 * c')).toNatClampNeg j else A2 1031 j) = _
      rw [if_pos rfl, e0, ncl]
      unfold va_cpy
      rw [if_pos ⟨by omega, by omega⟩, Nat.zero_add, Nat.sub_zero]
      exact k5 j hj
    have e1 : (ev_upd (ev_upd I2 1030 1 (nI c')) 1030 2 (nI pos')) 1030 1 = nI c' := by rw [ev_upd_nk (by decide), ev_upd_eq]
    have e2 : (ev_upd (ev_upd I2 1030 1 (nI c')) 1030 2 (nI pos')) 1030 2 = nI pos' := ev_upd_eq
    rw [e1]
    generalize ev_upd (ev_upd I2 1030 1 (nI c')) 1030 2 (nI pos') = I3 at f3 e1 e2 ⊢
    generalize ev_cp A2 1032 1031 0 0 (nI (5 * c')) = A3 at f3 ecp ⊢
    have g13 : fx [(1001, 1), (1003, 4), (1010, 1), (1027, 1), (1027, 2), (1027, 3), (1027, 4), (1027, 5), (1028, 1), (1030, 1), (1030, 2), (1030, 4), (1030, 5)] [1002, 1004, 1005, 1006, 1011, 1029, 1031, 1032] I A I3 A3 := (g12.sub (by decide) (by decide)).tr (f3.sub (by decide) (by decide))
    refine ref (nI c') I3 A3 u' v' (g13.sub (by decide) (by decide)) ((g13.1 1033 1 (by decide)).trans htm.1) (fun k _ => g13.1 1033 k (by simp)) (t2.fx f3 (by decide) (by decide)) ((b1.fx f2 (by decide) (by decide)).fx f3 (by decide) (by decide)) ((b2.fx f2 (by decide) (by decide)).fx f3 (by decide) (by decide)) (.inr ⟨ws', c', pos', tk', e, rfl, hc', (c1.fx f2 (by decide) (by decide)).fx f3 (by decide) (by decide), e1, e2, ecp⟩)
end CTR

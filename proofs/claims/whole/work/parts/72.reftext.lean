/-! TEXT: the reference's words and letters -/
def mst (I A : Nat → Nat → Int32) (ws0 ws : List (List Int32)) (rs : List HR) (pv mv : Nat → Int32) : Prop := mw I A ws ∧ ok ws ∧ ws.Nodup ∧ ws0 <+: ws ∧ hmr I A ws rs ∧ (∀ i, i < ws.length → A 1039 i = pv i) ∧ ∀ i, i < ws.length → A 1038 i = mv i
theorem mst.fx {S : List (Nat × Nat)} {T : List Nat} {I A I' A' : Nat → Nat → Int32} {ws0 ws : List (List Int32)} {rs : List HR} {pv mv : Nat → Int32} (h : mst I A ws0 ws rs pv mv) (g : fx S T I A I' A') (hS : ∀ p ∈ [(1033, 6), (1033, 14)], p ∉ S) (hT : ∀ p ∈ [1036, 1037, 1038, 1039, 1040, 1041, 1042, 1043, 1044], p ∉ T) : mst I' A' ws0 ws rs pv mv := by
  obtain ⟨h1, h2, h3, h4, h5, h6, h7⟩ := h
  refine ⟨h1.fx g (hS _ (by simp)) (hT _ (by simp)) (hT _ (by simp)), h2, h3, h4, h5.fx g (hS _ (by simp)) (fun p hp => hT p ?_), fun i hi => (g.2 _ _ (hT _ (by simp))).trans (h6 i hi), fun i hi => (g.2 _ _ (hT _ (by simp))).trans (h7 i hi)⟩
  simp at hp ⊢
  omega
def mrk (ws0 : List (List Int32)) (m1 m2 : Nat → Bool) (mv : Nat → Int32) : Prop := (∀ i, ws0.length ≤ i → mv i = 0) ∧ ∀ i, i < 150 → ((mv i &&& 1) = 0 ↔ m1 i = false) ∧ ((mv i &&& 2) = 0 ↔ m2 i = false)
def tmx (A : Nat → Nat → Int32) (t : List Int32) : Prop := t.length ≤ 400 ∧ ∀ j, j < t.length → A 1034 j = t.getD j 0
theorem tmx.fx {S : List (Nat × Nat)} {T : List Nat} {I A I' A' : Nat → Nat → Int32} {t : List Int32} (h : tmx A t) (g : fx S T I A I' A') (hT : 1034 ∉ T) : tmx A' t := ⟨h.1, fun j hj => (g.2 _ j hT).trans (h.2 j hj)⟩
def tkm (I A : Nat → Nat → Int32) (c : Nat) (tk : List Int32) : Prop := I 1033 29 = nI c ∧ tk.length = 5 * c ∧ ∀ j, j < 5 * c → A 1054 j = tk.getD j 0
theorem tkm.fx {S : List (Nat × Nat)} {T : List Nat} {I A I' A' : Nat → Nat → Int32} {c : Nat} {tk : List Int32} (h : tkm I A c tk) (g : fx S T I A I' A') (hS : (1033, 29) ∉ S) (hT : 1054 ∉ T) : tkm I' A' c tk :=
  ⟨(g.1 _ _ hS).trans h.1, h.2.1, fun j hj => (g.2 _ j hT).trans (h.2.2 j hj)⟩
section CTR
variable {d : Nat} {I A : Nat → Nat → Int32} {K : Int32 → (Nat → Nat → Int32) → (Nat → Nat → Int32) → Prop} {V : (Nat → Nat → Int32) → (Nat → Nat → Int32) → Prop} {t u v tk : List Int32} {nx le e j L st c pos pl b : Nat} {ws0 ws : List (List Int32)} {rs : List HR} {m1 m2 : Nat → Bool} {pv mv : Nat → Int32} {pf : Nat → Option (List Int32)}
theorem c_letterAtM (hd : 1 ≤ d) (ht : tmx A t) (h8 : ∀ b ∈ t, by8 b) (hj : j < 1000000) (h : K (lt t j) I A) : ev_Bi d 177 0 [some (.ref 1033), some (.int (nI j)), some (.int (nI t.length)), none] I A K := by
  obtain ⟨d, rfl⟩ : ∃ e, d = e + 1 := ⟨d - 1, by omega⟩
  have hl := ht.1
  refine t_M_letterAt_0 _ _ (cf npo ?_)
  by_cases c : j < t.length
  · rw [ncl, ht.2 j c]
    obtain ⟨n, hn, e⟩ := by8_num (by8_get h8 j)
    have ha := ltr_all ⟨n, hn⟩
    unfold lt at h
    have s45 : ¬ ((65 : Int32) ≤ t.getD j 0 ∧ t.getD j 0 ≤ 90) → ev_Bi (d + 1) 177 45 [some (.ref 1033), some (.int (nI j)), some (.int (nI t.length)), none] I A K := fun q => by
      unfold ltr at h
      rw [if_neg q] at h
      refine t_M_letterAt_45 _ _ _ ⟨vin (by omega), ?_⟩
      rw [ncl, ht.2 j c]
      refine c_beyond (fun k => z1 ?_) (fun k => z0 ?_)
      · rw [if_neg] at h
        · exact h
        · rintro ⟨q1, q2⟩
          rcases k with k | k
          · exact absurd q1 (Int32.not_le.mpr k)
          · exact absurd q2 (Int32.not_le.mpr k)
      · rw [if_pos ⟨Int32.not_lt.mp (fun q1 => k (.inl q1)), Int32.not_lt.mp (fun q1 => k (.inr q1))⟩] at h
        exact h
    refine ct (ult c) ⟨vin (by omega), fun q => s45 (fun k => absurd k.1 (Int32.not_le.mpr q)), fun q => ⟨vin (by omega), fun q2 => s45 (fun k => absurd k.2 (Int32.not_le.mpr q2)), fun q2 => ⟨vin (by omega), ?_⟩⟩⟩
    have q3 : (65 : Int32) ≤ t.getD j 0 ∧ t.getD j 0 ≤ 90 := ⟨Int32.not_lt.mp q, Int32.not_lt.mp q2⟩
    have hb := ha.2.2.2
    simp only at hb
    rw [← e] at hb
    have hb2 := hb q3
    unfold ltr at h
    rw [if_pos q3] at h
    refine c_beyond (fun k => ?_) (fun k => z0 h)
    rcases k with k | k
    · exact absurd hb2.2.1 (Int32.not_le.mpr k)
    · exact absurd hb2.2.2 (Int32.not_le.mpr k)
  · refine cf (nlt (by omega)) ?_
    unfold lt at h
    rw [getD_out (by omega)] at h
    exact h
theorem c_letterAtM_neg (hd : 1 ≤ d) {x y : Int32} (hx : x < 0) (h : K 0 I A) : ev_Bi d 177 0 [some (.ref 1033), some (.int x), some (.int y), none] I A K := by
  obtain ⟨d, rfl⟩ : ∃ e, d = e + 1 := ⟨d - 1, by omega⟩
  exact t_M_letterAt_0 _ _ (ct hx h)
theorem c_learnMS (hd : 1 ≤ d) (hp : par ws0 pv pf) (hk : mrk ws0 m1 m2 mv) (hc : mst I A ws0 ws rs pv mv) (hb : rb I A v) (hv : okw v) (h0 : lrn ws v = none → K (-1) I A) (h1 : ∀ ws' i, lrn ws v = some (ws', i) → i < 150 → ∀ I' A', mst I' A' ws0 ws' rs pv mv → fx [(1033, 6)] [1036, 1037, 1038, 1039] I A I' A' → K (nI i) I' A') : ev_Bi d 129 0 [some (.ref 1033), none, none] I A K := by
  have hc' := hc
  obtain ⟨c1, c2, c3, c4, c5, c6, c7⟩ := hc
  have h150 := c2.1
  refine c_learnM hd c2 c1 hb hv.2.1 (fun i hi => h1 ws i (by rw [lrn, hi]) (c2.at (fi_get hi)).1 _ _ hc' fx.rf) (fun hi hn => h0 ?_) (fun hi hn I' A' w' f' p' k' => h1 (ws ++ [v]) ws.length ?_ (by omega) _ _ ?_ f')
  · rw [lrn, hi]
    simp only
    rw [if_neg (by omega)]
  · rw [lrn, hi]
    simp only
    rw [if_pos hn]
  · have hle := c4.length_le
    refine ⟨w', c2.snoc hn hv.1 hv.2.1 hv.2.2, ?_, List.IsPrefix.trans c4 (List.prefix_append _ _), (c5.fx f' (by decide) (by decide)).mono (List.prefix_append _ _), fun i hi => ?_, fun i hi => ?_⟩
    · rw [List.nodup_append]
      refine ⟨c3, by simp, fun a ha b hb => ?_⟩
      rw [List.mem_singleton] at hb
      intro q
      rw [hb] at q
      rw [q] at ha
      exact fi_no hi ha
    · rw [p' i]
      by_cases ce : i = ws.length
      · rw [if_pos ce]
        exact (hp.1 i (by omega)).1.symm
      · rw [if_neg ce]
        rw [List.length_append, List.length_singleton] at hi
        exact c6 i (by omega)
    · rw [k' i]
      by_cases ce : i = ws.length
      · rw [if_pos ce]
        exact (hk.1 i (by omega)).symm
      · rw [if_neg ce]
        rw [List.length_append, List.length_singleton] at hi
        exact c7 i (by omega)
abbrev vS : List (Nat × Nat) := [(1033, 6), (1033, 21), (1033, 29)]
abbrev vT : List Nat := [1036, 1037, 1038, 1039, 1048, 1054, 1055, 1056]
theorem c_layM (hd : 8 ≤ d) (hst : st ≤ 3) (hp : par ws0 pv pf) (hk : mrk ws0 m1 m2 mv) (hc : mst I A ws0 ws rs pv mv) (hb : rb I A v) (hv : okw v) (ht : tkm I A c tk) (h60 : c < 60) (hm : ∀ ws' i, lrn ws v = some (ws', i) → m2 i = false) (hF : tkp st rs m1 m2 pf ws v = none → ∀ ws' I' A', mst I' A' ws0 ws' rs pv mv → fx vS vT I A I' A' → K 0 I' A') (hT : ∀ ws' i s, tkp st rs m1 m2 pf ws v = some (ws', some (i, s)) → ∀ I' A', mst I' A' ws0 ws' rs pv mv → tkm I' A' (c + 1) (tk ++ [nI pos, nI pl, nI b, nI i, nI s]) → fx [(1033, 6), (1033, 21), (1033, 29)] [1036, 1037, 1038, 1039, 1048, 1054] I A I' A' → K 1 I' A') : ev_Bi d 179 0 [some (.ref 1033), some (.int (nI st)), some (.int (nI pos)), some (.int (nI pl)), some (.int (nI b)), none, none, none] I A K := by
  obtain ⟨d, rfl⟩ : ∃ e, d = e + 1 := ⟨d - 1, by omega⟩
  refine t_M_lay_0 _ _ _ _ (c_learnMS (by omega) hp hk hc hb hv (fun e => cf (by decide) (hF (by rw [tkp, e]) _ _ _ hc fx.rf)) (fun ws1 i e hi I1 A1 hc1 f1 => ct nge ?_))
  have em := hm ws1 i e
  obtain ⟨hget, hpre⟩ := lrn_some e
  have hc1' := hc1
  obtain ⟨a1, a2, a3, a4, a5, a6, a7⟩ := hc1
  have hil : i < ws1.length := (List.getElem?_eq_some_iff.mp hget).1
  have hpr : prr ws1 (A1 1039 i) (pf i) := by
    rw [a6 i hil]
    exact hp.prr a4 i
  have hmk : (A1 1038 i &&& 1) = 0 ↔ m1 i = false := by
    rw [a7 i hil]
    exact (hk.2 i hi).1
  have hrs : ∀ q ∈ rs, lw q.2.2.2.1 := fun q hq => by
    obtain ⟨k, hk⟩ := List.getElem?_of_mem hq
    obtain ⟨_, _, _, _, cc, _⟩ := a5.2.2 k q hk
    rcases cc with ⟨_, c⟩ | ⟨k, _, c⟩
    · rw [c]
      exact fun b hb => absurd hb (by simp)
    · exact (ok_okw a2 c).2.2
  have hsk : okw (sto st (m1 i) (pf i) rs v) := sto_ok hv (fun v' hv' => by
      rcases hpr with ⟨_, q⟩ | ⟨k, v2, _, q1, q2⟩
      · rw [q] at hv'
        exact absurd hv' (by simp)
      · rw [q2, Option.some.injEq] at hv'
        rw [← hv']
        exact ok_okw a2 q1) hrs
  refine c_stemOf (by omega) hst a2 a1 a5 (hb.fx f1 (by decide) (by decide)) hget hmk hpr (fun I2 A2 r2 f2 => ?_)
  have hc2 := hc1'.fx f2 (by decide) (by decide)
  have g2 : fx [(1033, 6), (1033, 21)] [1036, 1037, 1038, 1039, 1048] I A I2 A2 := (f1.sub (by decide) (by decide)).tr (f2.sub (by decide) (by decide))
  have fin : ∀ z I3 A3, fx [(1033, 6)] [1036, 1037, 1038, 1039] I2 A2 I3 A3 → (∀ I4 A4, tkm I4 A4 (c + 1) (tk ++ [nI pos, nI pl, nI b, nI i, z]) → fx [(1033, 29)] [1054] I3 A3 I4 A4 → (z < 0 → K 0 I4 A4) ∧ (¬ z < 0 → K 1 I4 A4)) → (vp_in (5 * (I3 1033 29)) 300 ∧ (vp_in ((5 * (I3 1033 29)) + 1) 300 ∧ (vp_in ((5 * (I3 1033 29)) + 2) 300 ∧ (vp_in ((5 * (I3 1033 29)) + 3) 300 ∧ (vp_in ((5 * (I3 1033 29)) + 4) 300 ∧ ((z < 0 → K 0 (ev_upd I3 1033 29 ((I3 1033 29) + 1)) (ev_upd (ev_upd (ev_upd (ev_upd (ev_upd A3 1054 ((5 * (I3 1033 29)) : Int32).toNatClampNeg (nI pos)) 1054 (((5 * (I3 1033 29)) + 1) : Int32).toNatClampNeg (nI pl)) 1054 (((5 * (I3 1033 29)) + 2) : Int32).toNatClampNeg (nI b)) 1054 (((5 * (I3 1033 29)) + 3) : Int32).toNatClampNeg (nI i)) 1054 (((5 * (I3 1033 29)) + 4) : Int32).toNatClampNeg z)) ∧ (¬ z < 0 → K 1 (ev_upd I3 1033 29 ((I3 1033 29) + 1)) (ev_upd (ev_upd (ev_upd (ev_upd (ev_upd A3 1054 ((5 * (I3 1033 29)) : Int32).toNatClampNeg (nI pos)) 1054 (((5 * (I3 1033 29)) + 1) : Int32).toNatClampNeg (nI pl)) 1054 (((5 * (I3 1033 29)) + 2) : Int32).toNatClampNeg (nI b)) 1054 (((5 * (I3 1033 29)) + 3) : Int32).toNatClampNeg (nI i)) 1054 (((5 * (I3 1033 29)) + 4) : Int32).toNatClampNeg z)))))))) := fun z I3 A3 f3 hz => by
    obtain ⟨k1, k2, k3⟩ := (ht.fx g2 (by decide) (by decide)).fx f3 (by decide) (by decide)
    have e5 : 5 * nI c = nI (5 * c) := nI_mul 5 c
    have x1 : nI (5 * c) + 1 = nI (5 * c + 1) := nI_1 _
    have x2 : nI (5 * c) + 2 = nI (5 * c + 2) := nI_add (5 * c) 2
    have x3 : nI (5 * c) + 3 = nI (5 * c + 3) := nI_add (5 * c) 3
    have x4 : nI (5 * c) + 4 = nI (5 * c + 4) := nI_add (5 * c) 4
    rw [k1, e5, x1, x2, x3, x4, nI_1 c, ncl, ncl, ncl, ncl, ncl]
    refine ⟨vin (by omega), vin (by omega), vin (by omega), vin (by omega), vin (by omega), hz _ _ ⟨ev_upd_eq, ?_, ?_⟩ (fx.tr (fx.iu (by decide)) (fx.tr (fx.au (by decide)) (fx.tr (fx.au (by decide)) (fx.tr (fx.au (by decide)) (fx.tr (fx.au (by decide)) (fx.au (by decide)))))))⟩
    · rw [List.length_append, k2]
      simp
      omega
    · exact fun j hj => five k2 k3 j (by omega)
  refine c_learnMS (by omega) hp hk hc2 r2 hsk (fun e2 => fin (-1) I2 A2 fx.rf (fun I4 A4 _ f4 => ct (by decide) (hF ?_ _ _ _ (hc2.fx f4 (by decide) (by decide)) ((g2.sub (by decide) (by decide)).tr (f4.sub (by decide) (by decide)))))) (fun ws2 s e2 hs I3 A3 hc3 f3 => fin (nI s) I3 A3 f3 (fun I4 A4 t4 f4 => cf npo (hT ws2 i s ?_ _ _ (hc3.fx f4 (by decide) (by decide)) t4 ((g2.sub (by decide) (by decide)).tr ((f3.sub (by decide) (by decide)).tr (f4.sub (by decide) (by decide)))))))
  · rw [tkp, e]
    simp only
    rw [if_neg (by rw [em]; decide), e2]
  · rw [tkp, e]
    simp only
    rw [if_neg (by rw [em]; decide), e2]
end CTR

/-! TEXT: the class -/
def txt (t : List Int32) (st : Nat) (rs : List HR) (m1 m2 : Nat → Bool) (pf : Nat → Option (List Int32)) : Nat → Nat → Nat → Nat → List (List Int32) → Nat → Nat → List Int32 → Option (List (List Int32) × Nat × Nat × List Int32)
  | 0, _, _, _, ws, c, pos, tk => some (ws, c, pos, tk)
  | n + 1, nx, le, e, ws, c, pos, tk => if 60 ≤ c then some (ws, c, pos, tk) else match npc t nx le e with
    | none => some (ws, c, pos, tk)
    | some (pl, b, v, nx', le', e') => match tkp st rs m1 m2 pf ws v with
      | none => none
      | some (ws', none) => txt t st rs m1 m2 pf n nx' le' e' ws' c (pos + 1) tk
      | some (ws', some (i, s)) => txt t st rs m1 m2 pf n nx' le' e' ws' (c + 1) (pos + 1) (tk ++ [nI pos, nI pl, nI b, nI i, nI s])
theorem npc_ok {t : List Int32} (ht : ∀ b ∈ t, by8 b) {nx le e pl b nx' le' e' : Nat} {v : List Int32} (hci : ci t nx le e) (h : npc t nx le e = some (pl, b, v, nx', le', e')) : ci t nx' le' e' ∧ okw v ∧ pl < nx' ∧ (if nx < le then nx else e) < (if nx' < le' then nx' else e') ∧ pl < 400 + t.length ∧ b ≤ t.length := by
  have main : ∀ nx0 le0 e0, nx0 < le0 → le0 ≤ e0 → e0 ≤ t.length → lt t nx0 ≠ 0 → pce t nx0 le0 e0 = (pl, b, v, nx', le', e') → (if nx < le then nx else e) ≤ nx0 → ci t nx' le' e' ∧ okw v ∧ pl < nx' ∧ (if nx < le then nx else e) < (if nx' < le' then nx' else e') ∧ pl < 400 + t.length ∧ b ≤ t.length := fun nx0 le0 e0 g1 g2 g3 g4 g5 g6 => by
    have hp := pce_ok ht g1 g2 g3 g4
    unfold pce at g5
    simp only [Prod.mk.injEq] at g5
    obtain ⟨a1, a2, a3, a4, a5, a6⟩ := g5
    rw [a3, a4] at hp
    rw [a4] at a2
    subst a1
    subst a5
    subst a6
    obtain ⟨p1, p2, p3, p4, p5, p6⟩ := hp
    refine ⟨p1, ⟨p4, p5, p6⟩, p2, ?_, by omega, ?_⟩
    · have : nx0 < (if nx' < le0 then nx' else e0) := by split <;> omega
      omega
    · have := p1.1
      split at a2 <;> omega
  unfold npc at h
  by_cases cn : nx < le
  · rw [if_pos cn, Option.some.injEq] at h
    exact main nx le e cn hci.2.1 hci.2.2.1 (hci.2.2.2 cn) h (by rw [if_pos cn]; omega)
  · rw [if_neg cn] at h
    have hra := ra_ok hci.2.2.1
    have hle := lend_ok (t := t) hra.2.1
    by_cases cr : ra t e < re t e
    · rw [if_pos cr, Option.some.injEq] at h
      exact main _ _ _ (hle.2.2 cr) hle.2.1 hra.2.2.1 (hra.2.2.2 (by omega)) h (by rw [if_neg cn]; exact hra.1)
    · rw [if_neg cr] at h
      exact absurd h (by simp)
section CTR
variable {d : Nat} {I A : Nat → Nat → Int32} {K : Int32 → (Nat → Nat → Int32) → (Nat → Nat → Int32) → Prop} {V : (Nat → Nat → Int32) → (Nat → Nat → Int32) → Prop} {t u v tk : List Int32} {nx le e j L st c pos pl b : Nat} {ws0 ws : List (List Int32)} {rs : List HR} {m1 m2 : Nat → Bool} {pv : Nat → Int32} {pf : Nat → Option (List Int32)}
theorem lrn_some {ws' : List (List Int32)} {i : Nat} (h : lrn ws v = some (ws', i)) : ws'[i]? = some v ∧ ws <+: ws' := by
  unfold lrn at h
  split at h
  · rename_i i' hi
    simp at h
    obtain ⟨rfl, rfl⟩ := h
    exact ⟨fi_get hi, List.prefix_rfl⟩
  · split at h
    · simp at h
      obtain ⟨rfl, rfl⟩ := h
      exact ⟨by simp, List.prefix_append _ _⟩
    · exact absurd h (by simp)
theorem c_learnS (hd : 3 ≤ d) (hL : ev_isL L) (hp : par ws0 pv pf) (hc : cst I A ws0 ws rs m1 m2 pv) (hb : bu I A L v) (hv : okw v) (h0 : lrn ws v = none → K (-4) I A) (h1 : ∀ ws' i, lrn ws v = some (ws', i) → i < 150 → ∀ I' A', cst I' A' ws0 ws' rs m1 m2 pv → fx [(1003, 4)] [1004, 1005, 1006] I A I' A' → K (nI i) I' A') : ev_Bi d 86 0 [some (.ref 1003), some (.ref L), none, none] I A K := by
  have hc' := hc
  obtain ⟨c1, c2, c3, c4, c5, c6, c7⟩ := hc
  have h150 := c2.1
  refine c_learn hd hL c1 c2 hb (fun i hi => h1 ws i (by rw [lrn, hi]) (c2.at (fi_get hi)).1 _ _ hc' fx.rf) (fun hi hn => h0 ?_) (fun hi hn I' A' w' f' p' => h1 (ws ++ [v]) ws.length ?_ (by omega) _ _ ?_ f')
  · rw [lrn, hi]
    simp only
    rw [if_neg (by omega)]
  · rw [lrn, hi]
    simp only
    rw [if_pos hn]
  · have hle := c4.length_le
    refine ⟨w', c2.snoc hn hv.1 hv.2.1 hv.2.2, ?_, List.IsPrefix.trans c4 (List.prefix_append _ _), (c5.fx f' (by decide) (by decide)).mono (List.prefix_append _ _), fun i hi => ?_, fun i hi => ?_⟩
    · rw [List.nodup_append]
      refine ⟨c3, by simp, fun a ha b hb => ?_⟩
      rw [List.mem_singleton] at hb
      intro q
      rw [hb] at q
      rw [q] at ha
      exact fi_no hi ha
    · rw [p' i]
      by_cases ce : i = ws.length
      · rw [if_pos ce]
        exact (hp.1 i (by omega)).1.symm
      · rw [if_neg ce]
        rw [List.length_append, List.length_singleton] at hi
        exact c6 i (by omega)
    · rw [f'.2 1007 _ (by decide), f'.2 1007 _ (by decide)]
      exact c7 i hi
theorem c_tokAdd (hd : 1 ≤ d) (ht : tkc I A c pos tk) (hc : c < 60) {x1 x2 x3 x4 x5 : Int32} (h : ∀ I' A', tkc I' A' (c + 1) pos (tk ++ [x1, x2, x3, x4, x5]) → fx [(1030, 4)] [1032] I A I' A' → V I' A') : ev_Bv d 74 0 [some (.ref 1030), some (.int x1), some (.int x2), some (.int x3), some (.int x4), some (.int x5), none] I A V := by
  obtain ⟨d, rfl⟩ : ∃ e, d = e + 1 := ⟨d - 1, by omega⟩
  obtain ⟨h1, h2, h3, h4⟩ := ht
  refine t_N_add_0 _ _ _ _ _ (t_N_haveRoom_0 ?_)
  rw [h1]
  refine cf (nle (a := 60) (by omega)) (z1 ?_)
  have e5 : nI c * 5 = nI (5 * c) := by
    rw [Nat.mul_comm]
    exact nI_mul c 5
  have f1 : nI (5 * c) + 1 = nI (5 * c + 1) := nI_1 _
  have f2 : nI (5 * c) + 2 = nI (5 * c + 2) := nI_add (5 * c) 2
  have f3 : nI (5 * c) + 3 = nI (5 * c + 3) := nI_add (5 * c) 3
  have f4 : nI (5 * c) + 4 = nI (5 * c + 4) := nI_add (5 * c) 4
  rw [e5, f1, f2, f3, f4, nI_1 c, ncl, ncl, ncl, ncl, ncl]
  refine ⟨vin (by omega), vin (by omega), vin (by omega), vin (by omega), vin (by omega), h _ _ ⟨ev_upd_eq, ?_, ?_, ?_⟩ (fx.tr (fx.iu (by decide)) (fx.tr (fx.au (by decide)) (fx.tr (fx.au (by decide)) (fx.tr (fx.au (by decide)) (fx.tr (fx.au (by decide)) (fx.au (by decide)))))))⟩
  · rw [ev_upd_nk (by decide), h2]
  · rw [List.length_append, h3]
    simp
    omega
  · exact fun j hj => five h3 h4 j (by omega)
abbrev qS : List (Nat × Nat) := [(1003, 4), (1030, 4), (1030, 5), (1010, 1)]
abbrev qT : List Nat := [1004, 1005, 1006, 1011, 1032]
theorem c_takePiece (hd : 11 ≤ d) (hst : st ≤ 3) (hp : par ws0 pv pf) (hc : cst I A ws0 ws rs m1 m2 pv) (hb : bu I A 1028 v) (hv : okw v) (hu : bu I A 1010 u) (ht : tkc I A c pos tk) (h60 : c < 60) (hpl : I 1027 1 = nI pl) (hby : I 1027 2 = nI b) (hF : tkp st rs m1 m2 pf ws v = none → ∀ ws' u' I' A', cst I' A' ws0 ws' rs m1 m2 pv → bu I' A' 1010 u' → fx qS qT I A I' A' → K 0 I' A') (hS : ∀ ws', tkp st rs m1 m2 pf ws v = some (ws', none) → ∀ u' I' A', cst I' A' ws0 ws' rs m1 m2 pv → bu I' A' 1010 u' → tkc I' A' c (pos + 1) tk → fx qS qT I A I' A' → K 1 I' A') (hT : ∀ ws' i s, tkp st rs m1 m2 pf ws v = some (ws', some (i, s)) → ∀ u' I' A', cst I' A' ws0 ws' rs m1 m2 pv → bu I' A' 1010 u' → tkc I' A' (c + 1) (pos + 1) (tk ++ [nI pos, nI pl, nI b, nI i, nI s]) → fx qS qT I A I' A' → K 1 I' A') : ev_Bi d 116 0 [some (.ref 1000), some (.int (nI st)), none, none, none] I A K := by
  obtain ⟨d, rfl⟩ : ∃ e, d = e + 1 := ⟨d - 1, by omega⟩
  refine t_S_takePiece_0 _ (t_N_nextPosition_0 (t_C_piece_0 ⟨rfl, ?_⟩))
  have ep : nI pos + 1 - 1 = nI pos := by
    rw [nI_1]
    exact nI_sub (a := pos + 1) (b := 1) (by omega)
  rw [ht.2.1, ep, nI_1]
  have f0 : fx [(1030, 5)] [] I A (ev_upd I 1030 5 (nI (pos + 1))) A := fx.iu (by decide)
  have t0 : tkc (ev_upd I 1030 5 (nI (pos + 1))) A c (pos + 1) tk := ⟨by rw [ev_upd_nk (by decide)]; exact ht.1, ev_upd_eq, ht.2.2.1, ht.2.2.2⟩
  generalize ev_upd I 1030 5 (nI (pos + 1)) = I0 at f0 t0 ⊢
  have hc0 := hc.fx f0 (by decide) (by decide)
  have hb0 := hb.fx f0 (by decide) (by decide)
  have hu0 := hu.fx f0 (by decide) (by decide)
  refine c_learnS (by omega) isL3 hp hc0 hb0 hv (fun e => ct rfl (hF (by rw [tkp, e]) _ _ _ _ hc0 hu0 (f0.sub (by decide) (by decide)))) (fun ws1 i e hi I1 A1 hc1 f1 => cf nm4 ?_)
  have g1 : fx qS qT I A I1 A1 := (f0.sub (by decide) (by decide)).tr (f1.sub (by decide) (by decide))
  obtain ⟨hget, hpre⟩ := lrn_some e
  have hc1' := hc1
  obtain ⟨a1, a2, a3, a4, a5, a6, a7⟩ := hc1
  have hu1 := hu0.fx f1 (by decide) (by decide)
  have t1 := t0.fx f1 (by decide) (by decide)
  have hil : i < ws1.length := (List.getElem?_eq_some_iff.mp hget).1
  refine c_isMarked (m := 1) (by omega) a1 a2 (by omega) hget (fun g => z1 ?_) (fun g => z0 ?_)
  · have em : m2 i = true := by
      cases hz : m2 i with
      | true => rfl
      | false => exact absurd ((a7 i hi).2.mpr hz) g
    refine hS ws1 ?_ _ _ _ hc1' hu1 t1 g1
    rw [tkp, e]
    simp only
    rw [if_pos em]
  · have em : m2 i = false := (a7 i hi).2.mp g
    have hpr : prr ws1 (A1 1006 i) (pf i) := by
      rw [a6 i hil]
      exact hp.prr a4 i
    have hsk : okw (sto st (m1 i) (pf i) rs v) := sto_ok hv (fun v' hv' => by
      rcases hpr with ⟨_, q⟩ | ⟨k, v2, _, q1, q2⟩
      · rw [q] at hv'
        exact absurd hv' (by simp)
      · rw [q2, Option.some.injEq] at hv'
        rw [← hv']
        exact ok_okw a2 q1) (hcr_lw a2 a5)
    refine c_layStem (by omega) hst isL2 a2 a1 a5 hu1 hget (a7 i hi).1 hpr (fun I2 A2 b2 f2 => ?_)
    have hc2 := hc1'.fx f2 (by decide) (by decide)
    have t2 := t1.fx f2 (by decide) (by decide)
    have g2 := g1.tr (f2.sub (by decide) (by decide) : fx qS qT I1 A1 I2 A2)
    refine c_learnS (by omega) isL2 hp hc2 b2 hsk (fun e2 => ct rfl (hF ?_ _ _ _ _ hc2 b2 g2)) (fun ws2 s e2 hs I3 A3 hc3 f3 => cf nm4 ?_)
    · rw [tkp, e]
      simp only
      rw [if_neg (by rw [em]; decide), e2]
    · have t3 := t2.fx f3 (by decide) (by decide)
      have b3 := b2.fx f3 (by decide) (by decide)
      have g3 := g2.tr (f3.sub (by decide) (by decide) : fx qS qT I2 A2 I3 A3)
      refine t_C_place_0 (t_C_bytes_0 ?_)
      rw [g3.1 1027 1 (by decide), g3.1 1027 2 (by decide), hpl, hby]
      refine c_tokAdd (by omega) t3 h60 (fun I4 A4 t4 f4 => hT ws2 i s ?_ _ _ _ (hc3.fx f4 (by decide) (by decide)) (b3.fx f4 (by decide) (by decide)) t4 (g3.tr (f4.sub (by decide) (by decide))))
      rw [tkp, e]
      simp only
      rw [if_neg (by rw [em]; decide), e2]
abbrev tS : List (Nat × Nat) := [(1003, 4), (1030, 4), (1030, 5), (1010, 1), (1027, 1), (1027, 2), (1027, 3), (1027, 4), (1027, 5), (1028, 1)]
abbrev tT : List Nat := [1004, 1005, 1006, 1011, 1032, 1029]
theorem c_text_l (hd : 12 ≤ d) (hst : st ≤ 3) (hp : par ws0 pv pf) (h8 : ∀ b ∈ t, by8 b) {I0 A0 : Nat → Nat → Int32} (R : Option (List (List Int32) × Nat × Nat × List Int32)) (hF : R = none → ∀ ws' u' v' j I' A', cst I' A' ws0 ws' rs m1 m2 pv → bu I' A' 1010 u' → bu I' A' 1028 v' → tc I' A' t → fx tS tT I0 A0 I' A' → ev_Bi d 110 93 [some (.ref 1000), some (.int (nI st)), some (.int (nI ws0.length)), some (.int 0), some (.int j)] I' A' K) (hS : ∀ ws' c' pos' tk', R = some (ws', c', pos', tk') → c' ≤ 60 → ∀ u' v' j I' A', cst I' A' ws0 ws' rs m1 m2 pv → bu I' A' 1010 u' → bu I' A' 1028 v' → tc I' A' t → tkc I' A' c' pos' tk' → fx tS tT I0 A0 I' A' → ev_Bi d 110 93 [some (.ref 1000), some (.int (nI st)), some (.int (nI ws0.length)), some (.int 1), some (.int j)] I' A' K) : ∀ n j nx le e ws c pos tk u v I A, j + n = 400 → c ≤ 60 → ci t nx le e → cu I nx le e → cst I A ws0 ws rs m1 m2 pv → bu I A 1010 u → bu I A 1028 v → tc I A t → tkc I A c pos tk → fx tS tT I0 A0 I A → txt t st rs m1 m2 pf n nx le e ws c pos tk = R → ev_Bi d 110 45 [some (.ref 1000), some (.int (nI st)), some (.int (nI ws0.length)), some (.int 1), some (.int (nI j))] I A K := by
  obtain ⟨d, rfl⟩ : ∃ e, d = e + 1 := ⟨d - 1, by omega⟩
  intro n
  induction n with
  | zero =>
    intro j nx le e ws c pos tk u v I A hj h60 hci hcu hc hu hv ht htk hf hR
    rw [txt] at hR
    exact t_S_text_45 _ _ _ _ (ct (ule (a := 400) (by omega)) (hS _ _ _ _ hR.symm h60 _ _ _ _ _ hc hu hv ht htk hf))
  | succ n ih =>
    intro j nx le e ws c pos tk u v I A hj h60 hci hcu hc hu hv ht htk hf hR
    rw [txt] at hR
    refine t_S_text_45 _ _ _ _ (cf (nle (a := 400) (by omega)) (z1 (t_N_haveRoom_0 ?_)))
    rw [htk.1]
    by_cases c60 : 60 ≤ c
    · rw [if_pos c60] at hR
      exact ct (ule (a := 60) c60) (z0 (hS _ _ _ _ hR.symm h60 _ _ _ _ _ hc hu hv ht htk hf))
    rw [if_neg c60] at hR
    refine cf (nle (a := 60) (by omega)) (z1 (c_findPiece (by omega) ht h8 hci hcu hv (fun pl b v' nx' le' en' en I1 A1 cu1 p1 q1 b1 f1 => z1 ?_) (fun en I1 f1 => z0 ?_)))
    · rw [en] at hR
      simp only at hR
      have hok := npc_ok h8 hci en
      have hc1 := hc.fx f1 (by decide) (by decide)
      have hu1 := hu.fx f1 (by decide) (by decide)
      have ht1 : tc I1 A1 t := ht.fx f1 (by decide) (by decide)
      have htk1 := htk.fx f1 (by decide) (by decide)
      have hf1 := hf.tr (f1.sub (by decide) (by decide) : fx tS tT I A I1 A1)
      refine c_takePiece (by omega) hst hp hc1 b1 hok.2.1 hu1 htk1 (by omega) p1 q1 (fun e' ws' u' I2 A2 c2 u2 f2 => ?_) (fun ws' e' u' I2 A2 c2 u2 t2 f2 => ?_) (fun ws' i s e' u' I2 A2 c2 u2 t2 f2 => ?_)
      · rw [e'] at hR
        obtain ⟨d, rfl⟩ : ∃ e, d = e + 1 := ⟨d - 1, by omega⟩
        have s93 := hF hR.symm ws' u' v' (nI j + 1) I2 A2 c2 u2 (b1.fx f2 (by decide) (by decide)) (ht1.fx f2 (by decide) (by decide)) (hf1.tr (f2.sub (by decide) (by decide)))
        refine t_S_text_45 _ _ _ _ ⟨fun _ => s93, fun _ => z0 s93⟩
      · rw [e'] at hR
        simp only at hR
        rw [nI_1]
        refine ih (j + 1) nx' le' en' ws' c (pos + 1) tk u' v' I2 A2 (by omega) h60 hok.1 ⟨?_, ?_, ?_⟩ c2 u2 (b1.fx f2 (by decide) (by decide)) (ht1.fx f2 (by decide) (by decide)) t2 (hf1.tr (f2.sub (by decide) (by decide))) hR
        · rw [f2.1 1027 3 (by decide), cu1.1]
        · rw [f2.1 1027 4 (by decide), cu1.2.1]
        · rw [f2.1 1027 5 (by decide), cu1.2.2]
      · rw [e'] at hR
        simp only at hR
        rw [nI_1]
        refine ih (j + 1) nx' le' en' ws' (c + 1) (pos + 1) _ u' v' I2 A2 (by omega) (by omega) hok.1 ⟨?_, ?_, ?_⟩ c2 u2 (b1.fx f2 (by decide) (by decide)) (ht1.fx f2 (by decide) (by decide)) t2 (hf1.tr (f2.sub (by decide) (by decide))) hR
        · rw [f2.1 1027 3 (by decide), cu1.1]
        · rw [f2.1 1027 4 (by decide), cu1.2.1]
        · rw [f2.1 1027 5 (by decide), cu1.2.2]
    · rw [en] at hR
      exact hS _ _ _ _ hR.symm h60 _ _ _ _ _ (hc.fx f1 (by decide) (by decide)) (hu.fx f1 (by decide) (by decide)) (hv.fx f1 (by decide) (by decide)) (ht.fx f1 (by decide) (by decide)) (htk.fx f1 (by decide) (by decide)) (hf.tr (f1.sub (by decide) (by decide)))
end CTR

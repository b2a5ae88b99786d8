/-! PIECES OF A TEXT: the class -/
def lrn (ws : List (List Int32)) (v : List Int32) : Option (List (List Int32) × Nat) := match fi ws v with
  | some i => some (ws, i)
  | none => if ws.length < 150 then some (ws ++ [v], ws.length) else none
def tkp (st : Nat) (rs : List HR) (m1 m2 : Nat → Bool) (pf : Nat → Option (List Int32)) (ws : List (List Int32)) (v : List Int32) : Option (List (List Int32) × Option (Nat × Nat)) := match lrn ws v with
  | none => none
  | some (ws1, i) => if m2 i = true then some (ws1, none) else match lrn ws1 (sto st (m1 i) (pf i) rs v) with
    | none => none
    | some (ws2, s) => some (ws2, some (i, s))
def par (ws0 : List (List Int32)) (pv : Nat → Int32) (pf : Nat → Option (List Int32)) : Prop := (∀ i, ws0.length ≤ i → pv i = -5 ∧ pf i = none) ∧ ∀ i, i < ws0.length → prr ws0 (pv i) (pf i)
theorem pre_get {ws ws' : List (List Int32)} (h : ws <+: ws') {i : Nat} {v : List Int32} (hi : ws[i]? = some v) : ws'[i]? = some v := by
  obtain ⟨x, rfl⟩ := h
  rw [List.getElem?_append_left (List.getElem?_eq_some_iff.mp hi).1]
  exact hi
theorem par.prr {ws0 ws : List (List Int32)} {pv : Nat → Int32} {pf : Nat → Option (List Int32)} (h : par ws0 pv pf) (hw : ws0 <+: ws) (i : Nat) : prr ws (pv i) (pf i) := by
  by_cases c : i < ws0.length
  · rcases h.2 i c with q | ⟨k, v, q1, q2, q3⟩
    · exact .inl q
    · exact .inr ⟨k, v, q1, pre_get hw q2, q3⟩
  · exact .inl (h.1 i (by omega))
theorem hrw.mono {ws ws' : List (List Int32)} {A : Nat → Nat → Int32} {a1 a2 a3 a4 a5 i : Nat} {q : HR} (h : hrw ws A a1 a2 a3 a4 a5 i q) (hw : ws <+: ws') : hrw ws' A a1 a2 a3 a4 a5 i q := by
  obtain ⟨⟨e, e1, e2⟩, h2, h3, h4, h5, h6⟩ := h
  refine ⟨⟨e, e1, pre_get hw e2⟩, h2, h3, h4, ?_, h6⟩
  rcases h5 with h5 | ⟨c, c1, c2⟩
  · exact .inl h5
  · exact .inr ⟨c, c1, pre_get hw c2⟩
theorem hcr.mono {I A : Nat → Nat → Int32} {ws ws' : List (List Int32)} {rs : List HR} (h : hcr I A ws rs) (hw : ws <+: ws') : hcr I A ws' rs := ⟨h.1, h.2.1, fun i q hq => (h.2.2 i q hq).mono hw⟩
theorem hmr.mono {I A : Nat → Nat → Int32} {ws ws' : List (List Int32)} {rs : List HR} (h : hmr I A ws rs) (hw : ws <+: ws') : hmr I A ws' rs := ⟨h.1, h.2.1, fun i q hq => (h.2.2 i q hq).mono hw⟩
/-- the class's words while a text is read -/
def cst (I A : Nat → Nat → Int32) (ws0 ws : List (List Int32)) (rs : List HR) (m1 m2 : Nat → Bool) (pv : Nat → Int32) : Prop := cw I A ws ∧ ok ws ∧ ws.Nodup ∧ ws0 <+: ws ∧ hcr I A ws rs ∧ (∀ i, i < ws.length → A 1006 i = pv i) ∧ ∀ i, i < 150 → (A 1007 (i * 3) = 0 ↔ m1 i = false) ∧ (A 1007 (i * 3 + 1) = 0 ↔ m2 i = false)
theorem cst.fx {S : List (Nat × Nat)} {T : List Nat} {I A I' A' : Nat → Nat → Int32} {ws0 ws : List (List Int32)} {rs : List HR} {m1 m2 : Nat → Bool} {pv : Nat → Int32} (h : cst I A ws0 ws rs m1 m2 pv) (g : fx S T I A I' A') (hS : ∀ p ∈ [(1003, 4), (1012, 5)], p ∉ S) (hT : ∀ p ∈ [1004, 1005, 1006, 1007, 1013, 1014, 1015, 1016, 1017], p ∉ T) : cst I' A' ws0 ws rs m1 m2 pv := by
  obtain ⟨h1, h2, h3, h4, h5, h6, h7⟩ := h
  refine ⟨h1.fx g (hS _ (by simp)) (hT _ (by simp)) (hT _ (by simp)), h2, h3, h4, h5.fx g (hS _ (by simp)) (fun p hp => hT p ?_), fun i hi => (g.2 _ _ (hT _ (by simp))).trans (h6 i hi), fun i hi => ?_⟩
  · simp at hp ⊢
    omega
  · rw [g.2 1007 _ (hT _ (by simp)), g.2 1007 _ (hT _ (by simp))]
    exact h7 i hi
theorem five {A : Nat → Nat → Int32} {a b : Nat} {tk : List Int32} {x1 x2 x3 x4 x5 : Int32} (hl : tk.length = b) (h : ∀ j, j < b → A a j = tk.getD j 0) : ∀ j, j < b + 5 → (ev_upd (ev_upd (ev_upd (ev_upd (ev_upd A a b x1) a (b + 1) x2) a (b + 2) x3) a (b + 3) x4) a (b + 4) x5) a j = (tk ++ [x1, x2, x3, x4, x5]).getD j 0 := fun j hj => by
  rw [ev_upd_at, ev_upd_at, ev_upd_at, ev_upd_at, ev_upd_at, getD_app, hl]
  by_cases c : j < b
  · rw [if_neg (by omega), if_neg (by omega), if_neg (by omega), if_neg (by omega), if_neg (by omega), if_pos c]
    exact h j c
  · rw [if_neg c]
    obtain ⟨k, rfl⟩ : ∃ k, j = b + k := ⟨j - b, by omega⟩
    rw [Nat.add_sub_cancel_left]
    have hk : k < 5 := by omega
    match k, hk with
    | 0, _ => rw [if_neg (by omega), if_neg (by omega), if_neg (by omega), if_neg (by omega), if_pos (by omega)]; rfl
    | 1, _ => rw [if_neg (by omega), if_neg (by omega), if_neg (by omega), if_pos rfl]; rfl
    | 2, _ => rw [if_neg (by omega), if_neg (by omega), if_pos rfl]; rfl
    | 3, _ => rw [if_neg (by omega), if_pos rfl]; rfl
    | 4, _ => rw [if_pos rfl]; rfl
def tkc (I A : Nat → Nat → Int32) (c pos : Nat) (tk : List Int32) : Prop := I 1030 4 = nI c ∧ I 1030 5 = nI pos ∧ tk.length = 5 * c ∧ ∀ j, j < 5 * c → A 1032 j = tk.getD j 0
theorem tkc.fx {S : List (Nat × Nat)} {T : List Nat} {I A I' A' : Nat → Nat → Int32} {c pos : Nat} {tk : List Int32} (h : tkc I A c pos tk) (g : fx S T I A I' A') (hS : ∀ p ∈ [(1030, 4), (1030, 5)], p ∉ S) (hT : 1032 ∉ T) : tkc I' A' c pos tk :=
  ⟨(g.1 _ _ (hS _ (by simp))).trans h.1, (g.1 _ _ (hS _ (by simp))).trans h.2.1, h.2.2.1, fun j hj => (g.2 _ j hT).trans (h.2.2.2 j hj)⟩
section CTR
variable {d : Nat} {I A : Nat → Nat → Int32} {K : Int32 → (Nat → Nat → Int32) → (Nat → Nat → Int32) → Prop} {V : (Nat → Nat → Int32) → (Nat → Nat → Int32) → Prop} {t u v tk : List Int32} {nx le e j L st c pos pl by' : Nat} {ws0 ws : List (List Int32)} {rs : List HR} {m1 m2 : Nat → Bool} {pv : Nat → Int32} {pf : Nat → Option (List Int32)}
theorem c_findPiece (hd : 4 ≤ d) (ht : tc I A t) (h8 : ∀ b ∈ t, by8 b) (hci : ci t nx le e) (hc : cu I nx le e) (hb : bu I A 1028 u) (h1 : ∀ pl b v nx' le' e', npc t nx le e = some (pl, b, v, nx', le', e') → ∀ I' A', cu I' nx' le' e' → I' 1027 1 = nI pl → I' 1027 2 = nI b → bu I' A' 1028 v → fx uS uT I A I' A' → K 1 I' A') (h0 : npc t nx le e = none → ∀ I', fx lS [] I A I' A → K 0 I' A) : ev_Bi d 12 0 [some (.ref 1027), some (.ref 1001)] I A K := by
  obtain ⟨d, rfl⟩ : ∃ e, d = e + 1 := ⟨d - 1, by omega⟩
  have hl := ht.2.1
  generalize hnx0 : nx = nx0 at h1 h0
  generalize hle0 : le = le0 at h1 h0
  generalize he0 : e = e0 at h1 h0
  have s21 : ∀ nx le e I1, nx < le → le ≤ e → e ≤ t.length → lt t nx ≠ 0 → cu I1 nx le e → fx lS [] I A I1 A → npc t nx0 le0 e0 = some (pce t nx le e) → ev_Bi (d + 1) 12 21 [some (.ref 1027), some (.ref 1001)] I1 A K := fun nx' le' e' I1 g1 g2 g3 g4 g5 g6 g7 => by
    have hp := pce_ok h8 g1 g2 g3 g4
    have l37 : ∀ n q acc I2 A2, q + n = le' → cu I2 q le' e' → I2 1027 1 = nI nx' → bu I2 A2 1028 acc → scn t le' n q acc = scn t le' (le' - nx') nx' [] → fx uS uT I A I2 A2 → ev_Bi (d + 1) 12 37 [some (.ref 1027), some (.ref 1001)] I2 A2 K := by
      have s110 : ∀ q acc I2 A2, q ≤ le' → cu I2 q le' e' → I2 1027 1 = nI nx' → bu I2 A2 1028 acc → (q, acc) = scn t le' (le' - nx') nx' [] → fx uS uT I A I2 A2 → ev_Bi (d + 1) 12 110 [some (.ref 1027), some (.ref 1001)] I2 A2 K := fun q acc I2 A2 hq c2 p2 b2 ee f2 => by
        have e1 : (scn t le' (le' - nx') nx' []).1 = q := by rw [← ee]
        have e2 : (scn t le' (le' - nx') nx' []).2 = acc := by rw [← ee]
        unfold pce at g7
        rw [e1, e2] at g7
        rw [e1] at hp
        refine t_C_findPiece_110 ?_
        rw [c2.1, c2.2.1, c2.2.2, p2]
        have fin : ∀ b, b = (if q < le' then q else e') - nx' → K 1 (ev_upd I2 1027 2 (nI b)) A2 := fun b eb => by
          rw [← eb] at g7
          have f3 : fx [(1027, 2)] [] I2 A2 (ev_upd I2 1027 2 (nI b)) A2 := fx.iu (by decide)
          refine h1 _ _ _ _ _ _ g7 _ _ ⟨?_, ?_, ?_⟩ ?_ ev_upd_eq (b2.fx f3 (by decide) (by decide)) (f2.tr (f3.sub (by decide) (by decide)))
          · rw [ev_upd_nk (by decide), c2.1]
          · rw [ev_upd_nk (by decide), c2.2.1]
          · rw [ev_upd_nk (by decide), c2.2.2]
          · rw [ev_upd_nk (by decide), p2]
        by_cases cq : q < le'
        · rw [if_pos cq] at fin
          rw [nI_sub (by omega), nI_sub (by omega)]
          exact cf (nle cq) (fin _ rfl)
        · rw [if_neg cq] at fin
          rw [nI_sub (by omega), nI_sub (by omega)]
          exact ct (ule (by omega)) (fin _ rfl)
      intro n
      induction n with
      | zero =>
        intro q acc I2 A2 hq c2 p2 b2 ee f2
        refine t_C_findPiece_37 ?_
        rw [c2.1, c2.2.1]
        refine ct (ule (by omega)) (s110 q acc I2 A2 (by omega) c2 p2 b2 ?_ f2)
        rw [← ee]
        rfl
      | succ n ih =>
        intro q acc I2 A2 hq c2 p2 b2 ee f2
        have t2 : tc I2 A2 t := ht.fx f2 (by decide) (by decide)
        have h24 := b2.2.1
        rw [scn] at ee
        have s71 : (acc.length < 24 ∨ lt t q = 0) → ev_Bi (d + 1) 12 71 [some (.ref 1027), some (.ref 1001)] I2 A2 K := fun g => by
          rw [if_pos g] at ee
          have s97 : ∀ acc' I3 A3, cu I3 q le' e' → I3 1027 1 = nI nx' → bu I3 A3 1028 acc' → scn t le' n (q + 1) acc' = scn t le' (le' - nx') nx' [] → fx uS uT I A I3 A3 → ev_Bi (d + 1) 12 97 [some (.ref 1027), some (.ref 1001)] I3 A3 K := fun acc' I3 A3 c3 p3 b3 ee3 f3 => by
            refine t_C_findPiece_97 ?_
            rw [c3.1, nI_1]
            have f4 : fx [(1027, 3)] [] I3 A3 (ev_upd I3 1027 3 (nI (q + 1))) A3 := fx.iu (by decide)
            refine ih (q + 1) acc' _ _ (by omega) ⟨ev_upd_eq, ?_, ?_⟩ ?_ (b3.fx f4 (by decide) (by decide)) ee3 (f3.tr (f4.sub (by decide) (by decide)))
            · rw [ev_upd_nk (by decide), c3.2.1]
            · rw [ev_upd_nk (by decide), c3.2.2]
            · rw [ev_upd_nk (by decide), p3]
          refine t_C_findPiece_71 ?_
          rw [c2.1]
          refine c_letterAt (by omega) t2 h8 (by omega) ⟨fun z => ?_, fun z => ?_⟩
          · rw [if_pos z] at ee
            exact s97 _ _ _ c2 p2 b2 ee f2
          · rw [if_neg z] at ee
            have ha : acc.length < 24 := by
              rcases g with g | g
              · exact g
              · exact absurd g z
            rw [c2.1]
            refine c_letterAt (by omega) t2 h8 (by omega) (c_add isL3 b2 ha (lo_fit (lt_lo h8 z)) (fun I3 A3 b3 f3 => s97 _ _ _ ⟨?_, ?_, ?_⟩ ?_ b3 ee (f2.tr (f3.sub (by decide) (by decide)))))
            · rw [f3.1 1027 3 (by decide), c2.1]
            · rw [f3.1 1027 4 (by decide), c2.2.1]
            · rw [f3.1 1027 5 (by decide), c2.2.2]
            · rw [f3.1 1027 1 (by decide), p2]
        refine t_C_findPiece_37 ?_
        rw [c2.1, c2.2.1]
        refine cf (nle (by omega)) (c_size isL3 b2 ?_)
        by_cases ca : acc.length < 24
        · exact ct (ult (b := 24) ca) (s71 (.inl ca))
        · refine cf (nlt (b := 24) (by omega)) ?_
          rw [c2.1]
          refine c_letterAt (by omega) t2 h8 (by omega) ⟨fun z => s71 (.inr z), fun z => s110 q acc I2 A2 (by omega) c2 p2 b2 ?_ f2⟩
          rw [if_neg] at ee
          · exact ee
          · rintro (k | k)
            · exact ca k
            · exact z k
    have f2 : fx [(1027, 1)] [] I1 A (ev_upd I1 1027 1 (nI nx')) A := fx.iu (by decide)
    refine t_C_findPiece_21 ?_
    rw [g5.1]
    refine c_shorten0 isL3 ((hb.fx g6 (by decide) (by decide)).fx f2 (by decide) (by decide)) (fun I2 A2 b2 f3 => ?_)
    have f12 : fx uS uT I A I2 A2 := (g6.sub (by decide) (by decide)).tr ((f2.sub (by decide) (by decide)).tr (f3.sub (by decide) (by decide)))
    refine l37 (le' - nx') nx' [] I2 A2 (by omega) ⟨?_, ?_, ?_⟩ ?_ b2 rfl f12
    · rw [f3.1 1027 3 (by decide), ev_upd_nk (by decide), g5.1]
    · rw [f3.1 1027 4 (by decide), ev_upd_nk (by decide), g5.2.1]
    · rw [f3.1 1027 5 (by decide), ev_upd_nk (by decide), g5.2.2]
    · rw [f3.1 1027 1 (by decide), ev_upd_eq]
  subst hnx0 hle0 he0
  refine t_C_findPiece_0 ?_
  rw [hc.1, hc.2.1]
  by_cases cn : nx < le
  · exact ct (ult cn) (s21 nx le e I cn hci.2.1 hci.2.2.1 (hci.2.2.2 cn) hc fx.rf (if_pos cn))
  · have hra := ra_ok hci.2.2.1
    have en : npc t nx le e = if ra t e < re t e then some (pce t (ra t e) (lend t (ra t e) (re t e)) (re t e)) else none := if_neg cn
    have hle := lend_ok (t := t) hra.2.1
    exact cf (nlt (by omega)) (c_findLetters (by omega) ht h8 hci.2.2.1 hc.2.2 (fun g I1 c1 f1 => z1 (s21 _ _ _ I1 (hle.2.2 g) hle.2.1 hra.2.2.1 (hra.2.2.2 (by omega)) c1 f1 (by rw [en, if_pos g]))) (fun g I1 f1 => z0 (h0 (by rw [en, if_neg g]) _ f1)))
end CTR

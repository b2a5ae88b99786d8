/-! PART, side by side -/
section CTR
variable {d : Nat} {I A : Nat → Nat → Int32} {K : Int32 → (Nat → Nat → Int32) → (Nat → Nat → Int32) → Prop} {V : (Nat → Nat → Int32) → (Nat → Nat → Int32) → Prop} {i k p s c0 l : Nat} {N : Nat} {xs : Nat → Int32} {u v w t o : List Int32} {ws : List (List Int32)} {me : Nat → Bool} {r : PT} {T : Nat → PT}
theorem c_part_e (hd : 1 ≤ d) (h1 : 1 ≤ w.length) (h24 : w.length ≤ 24) (hb : ∀ q, q < w.length → bb (cand ws me l w T q) (T q)) (he : ∀ q, q < w.length → em A w q (T q)) {x1 x3 y : Int32} (hx3 : x3 < 0) {o4 o5 o6 : Option Value} (h : K (pan T y) I A) : ev_Bi d 169 32 [some (.ref 1033), some (.int x1), some (.int y), some (.int x3), o4, o5, o6] I A K := by
  obtain ⟨d, rfl⟩ : ∃ e, d = e + 1 := ⟨d - 1, by omega⟩
  have v0 : vp_in 0 25 := vin (n := 0) (by omega)
  unfold pan at h
  refine t_M_part_32 _ _ _ _ _ _ (ct hx3 ⟨v0, ?_⟩)
  have e0 : (0 : Int32).toNatClampNeg = 0 := by decide
  rw [e0]
  rcases he 0 h1 with ⟨e1, e2⟩ | ⟨c, s, k, e1, e2, e3, e4, e5, e6, e7, e8, e9⟩
  · rw [e2]
    have ec : cnt (T 0) = 0 := by rw [e1]; rfl
    refine cf (by decide) ⟨fun c => ?_, fun c => c_beyond (fun _ => z1 ?_) (fun c2 => absurd ?_ c2)⟩
    · rw [if_pos c, ec] at h
      exact h
    · rw [if_neg c, ec] at h
      by_cases cy : y < 0
      · rw [if_pos cy] at h
        exact h
      · rw [if_neg cy, if_neg (by omega)] at h
        exact h
    · exact (beyond0 (n := 0) (by omega)).mpr (by rintro ⟨j, hj, _⟩; omega)
  · rw [e2]
    have ec : cnt (T 0) = c := by rw [e1]; rfl
    refine ct (ult (b := 100) (by omega)) ⟨v0, fun cy => ?_, fun cy => c_beyond (fun c2 => z1 ?_) (fun c2 => z0 ?_)⟩
    · rw [if_pos cy, ec] at h
      exact h
    · rw [beyond0 (by omega)] at c2
      rw [if_neg cy, ec] at h
      by_cases cy2 : y < 0
      · rw [if_pos cy2] at h
        exact h
      · rcases int_cases y with q | ⟨j, hj, rfl⟩
        · exact absurd q cy2
        · rw [if_neg cy2, ncl, if_neg (fun k => c2 ⟨j, k, rfl⟩)] at h
          exact h
    · rw [beyond0 (by omega), Classical.not_not] at c2
      obtain ⟨k, hk, rfl⟩ := c2
      rw [if_neg cy, if_neg npo, ncl, ec, if_pos hk] at h
      have hk' : k < cnt (T 0) := by omega
      have loop : ∀ n j, j + n = k → ev_Bi (d + 1) 169 236 [some (.ref 1033), some (.int x1), some (.int (nI k)), some (.int (nI c)), some (.int (nI (pos T j))), some (.int (nI j)), o6] I A K := by
        intro n
        induction n with
        | zero =>
          intro j hj
          have : j = k := by omega
          subst this
          obtain ⟨g1, s, j', g2⟩ := pos_some hb h1 j hk'
          refine t_M_part_236 _ _ _ _ _ _ (ct (ule (by omega)) ⟨vin (by omega), ?_⟩)
          rw [ncl]
          rw [g2] at h
          rcases he (pos T j) g1 with ⟨e, _⟩ | ⟨c, s, k, e, _, _, e3, _⟩
          · rw [g2] at e
            exact absurd e (by simp)
          · rw [e3]
            rw [g2] at e
            simp at e
            rw [← e.2.2]
            exact h
        | succ n ih =>
          intro j hj
          obtain ⟨g1, s, j', g2⟩ := pos_some hb h1 j (by omega)
          refine t_M_part_236 _ _ _ _ _ _ (cf (nle (by omega)) ⟨vin (by omega), ?_⟩)
          rw [ncl, nI_1]
          rcases he (pos T j) g1 with ⟨e, _⟩ | ⟨c, s2, k2, e, _, e4, _⟩
          · rw [g2] at e
            exact absurd e (by simp)
          · have ep : pos T (j + 1) = pos T j + s2 := by rw [pos, e]; rfl
            rw [e4, nI_add, ← ep]
            exact ih (j + 1) (by omega)
      exact loop k 0 (by omega)
theorem c_part_l (hd : 1 ≤ d) (ho : ok ws) (hn : ws.Nodup) (hw : mw I A ws) (hr : rb I A w) (h1 : 1 ≤ w.length) (h24 : w.length ≤ 24) (hm : mem A ws me) (hl : I 1033 19 = nI l) (hl12 : l ≤ 12) (hl1 : 1 ≤ l) (hb : ∀ q, q < w.length → bb (cand ws me l w T q) (T q)) {x1 y : Int32} (h : ∀ A', fx [] rT I A I A' → K (pan T y) I A') : ∀ m A1 (T' : Nat → PT) o4 o5 o6, m ≤ w.length → (∀ q, m ≤ q → q < w.length → bb (cand ws me l w T' q) (T' q)) → (∀ q, m ≤ q → q < w.length → em A1 w q (T' q)) → A1 1050 w.length = 0 → fx [] rT I A I A1 → ev_Bi d 169 32 [some (.ref 1033), some (.int x1), some (.int y), some (.int (nI m - 1)), o4, o5, o6] I A1 K := by
  intro m
  induction m with
  | zero =>
    intro A1 T' o4 o5 o6 hm1 h2 h3 h4 hf
    have eq := tab_eq hn hl1 hb (fun q hq => h2 q (by omega) hq) w.length
    refine c_part_e hd h1 h24 hb (fun q hq => ?_) (by decide) (h A1 hf)
    rw [eq q hq (by omega)]
    exact h3 q (by omega) hq
  | succ p ih =>
    intro A1 T' o4 o5 o6 hm1 h2 h3 h4 hf
    obtain ⟨d, rfl⟩ : ∃ e, d = e + 1 := ⟨d - 1, by omega⟩
    have e1 : nI (p + 1) - 1 = nI p := nI_sub (a := p + 1) (b := 1) (by omega)
    rw [e1]
    refine t_M_part_32 _ _ _ _ _ _ (cf npo ⟨vin (by omega), ?_⟩)
    rw [ncl, hl]
    have f2 : fx [] rT I A1 I (ev_upd A1 1050 p 100) := fx.au (by decide)
    have a2 : ∀ x q, q ≠ p → (ev_upd A1 1050 p 100) x q = A1 x q := fun x q hq => ev_upd_nk (fun c => hq c.2)
    have z2 : (ev_upd A1 1050 p 100) 1050 p = 100 := ev_upd_eq
    generalize ev_upd A1 1050 p 100 = A2 at f2 a2 z2 ⊢
    have f3 := hf.tr f2
    refine c_part_s (T := T') (by omega) ho hn (hw.fx f3 (by decide) (by decide) (by decide)) (hr.fx f3 (by decide) (by decide)) h24 (hm.fx f3 (by decide)) hl12 hl1 (by omega) (fun q hq1 hq2 => (h3 q (by omega) hq2).at (fun x => a2 x q (by omega))) ((a2 _ _ (by omega)).trans h4) (fun r A4 b4 e4 a4 f4 o4 o5 o6 => ?_) w.length l A2 none _ _ (by omega) (by omega) (by omega) (fun s k c q => absurd q.1 (fun q1 => absurd q.2.1 (by omega))) (.inl ⟨rfl, z2⟩) (fun _ _ _ => rfl) fx.rf
    have e2 : nI p + (-1) = nI p - 1 := (Int32.sub_eq_add_neg ..).symm
    rw [e2]
    have hT : ∀ q, p < q → T' q = (fun q => if q = p then r else T' q) q := fun q hq => (if_neg (by omega)).symm
    refine ih A4 (fun q => if q = p then r else T' q) o4 o5 o6 (by omega) (fun q hq1 hq2 => ?_) (fun q hq1 hq2 => ?_) ((a4 _ _ (by omega)).trans ((a2 _ _ (by omega)).trans h4)) (f3.tr f4)
    · by_cases cq : q = p
      · subst cq
        show bb _ (if q = q then r else T' q)
        rw [if_pos rfl]
        exact bb_congr (cand_congr hl1 (fun q' a b => hT q' a)) b4
      · show bb _ (if q = p then r else T' q)
        rw [if_neg cq]
        exact bb_congr (cand_congr hl1 (fun q' a b => hT q' (by omega))) (h2 q (by omega) hq2)
    · show em A4 w q (if q = p then r else T' q)
      by_cases cq : q = p
      · rw [if_pos cq, cq]
        exact e4
      · rw [if_neg cq]
        exact (h3 q (by omega) hq2).at (fun x => (a4 x q cq).trans (a2 x q cq))
theorem u_part (hd : 4 ≤ d) (h : Sm N xs I A t ws o) (x y : Int32) : ev_Bi d 108 0 [some (.ref 1000), some (.int x), some (.int y)] I A (md d N xs 169 [some (.ref 1033), some (.int x), some (.int y), none, none, none, none]) := by
  obtain ⟨d, rfl⟩ : ∃ e, d = e + 1 := ⟨d - 1, by omega⟩
  have h11 := Sm_S11 h
  obtain ⟨hcw, hmw, ho, hnd⟩ := h.2.1
  refine t_S_part_0 x y (c_knows hcw ho (fun c => z1 ?_) (fun c => z0 ⟨h11, t_M_part_0 _ _ (c_strange (by omega) hmw ho (fun _ => z1 ⟨rfl, t, ws, o, h⟩) (fun n => absurd n c))⟩))
  obtain ⟨i, w, rfl, hi⟩ := c
  have hk := ho.at hi
  obtain ⟨me, hmc, hmm⟩ := h.2.2.2.1.members
  obtain ⟨h8a, l, hl2, hl12, h8b⟩ := h.2.2.2.2.2.2.2.1
  obtain ⟨a, ha⟩ := h.2.2.2.2.2.2.2.2.2.1.1
  refine c_copyTo (by omega) isL2 hcw ho hi ha (fun I1 A1 b1 f1 => c_lay (me := me) (l := l) (by omega) isL2 ho (hcw.fr f1 isL2) b1 (hmc.fx f1 (by decide)) ((f1.1 1023 0 (by decide)).trans h8b) hl12 (by omega) (fun T A2 hb he f2 => ?_))
  have g2 : fx [(1010, 1)] [1011, 1024, 1025, 1026] I A I1 A2 := (f1.sub (by decide) (by decide)).tr (f2.sub (by decide) (by decide))
  have hb' : ∀ q, q < w.length → bb (cand ws me l w T q) (T q) := fun q hq => hb q (by omega)
  have fin : md (d + 1) N xs 169 [some (.ref 1033), some (.int (nI i)), some (.int y), none, none, none, none] (pan T y) I1 A2 := by
    have hmw2 : mw I1 A2 ws := hmw.fx g2 (by decide) (by decide) (by decide)
    refine ⟨h11.fx g2 (by decide) (by decide), t_M_part_0 _ _ (c_strange (by omega) hmw2 ho (fun n => absurd ⟨i, w, rfl, hi⟩ n) (fun _ => z0 (c_take ho hi hmw2 (fun I3 A3 r3 f3 => ?_))))⟩
    rw [r3.1, ncl]
    refine ⟨vin (by omega), ?_⟩
    have f4 : fx [] rT I3 A3 I3 (ev_upd A3 1050 w.length 0) := fx.au (by decide)
    have z4 : (ev_upd A3 1050 w.length 0) 1050 w.length = 0 := ev_upd_eq
    generalize ev_upd A3 1050 w.length 0 = A4 at f4 z4 ⊢
    have g4 : fx [(1010, 1), (1033, 21)] [1011, 1024, 1025, 1026, 1048, 1050, 1051, 1052] I A I3 A4 := (g2.sub (by decide) (by decide)).tr ((f3.sub (by decide) (by decide)).tr (f4.sub (by decide) (by decide)))
    refine c_part_l (T := T) (by omega) ho hnd (hmw.fx g4 (by decide) (by decide) (by decide)) (r3.fx f4 (by decide) (by decide)) hk.2.2.1 hk.2.2.2.1 (hmm.fx g4 (by decide)) ((g4.1 1033 19 (by decide)).trans (h8a.trans h8b)) hl12 (by omega) hb' (fun A5 f5 => ⟨rfl, t, ws, o, ?_⟩) w.length A4 (fun _ => none) none none none (by omega) (fun q q1 q2 => by omega) (fun q q1 q2 => by omega) z4 fx.rf
    refine Sm_wk (a := w) h ((g4.sub (by decide) (by decide)).tr (f5.sub (by decide) (by decide))) ?_
    exact (((b1.fx f2 (by decide) (by decide)).fx f3 (by decide) (by decide)).fx f4 (by decide) (by decide)).fx f5 (by decide) (by decide)
  refine ⟨fun c => t_P_count_0 ⟨vin (n := 0) (by omega), ?_⟩, fun c => c_numberOf hk.2.2.1 hk.2.2.2.1 hb' he c fin⟩
  have e0 : A2 1024 (0 : Int32).toNatClampNeg = pan T y := by
    unfold pan
    rw [if_pos c]
    exact ec_cnt (he 0 (by omega))
  rw [e0]
  exact fin
end CTR

/-! PART -/
def cnt (r : PT) : Nat := match r with
  | none => 0
  | some (c, _, _) => c
def stp (r : PT) : Nat := match r with
  | none => 0
  | some (_, s, _) => s
def pos (T : Nat → PT) : Nat → Nat
  | 0 => 0
  | k + 1 => pos T k + stp (T (pos T k))
def pan (T : Nat → PT) (y : Int32) : Int32 := if y = -1 then nI (cnt (T 0)) else if y < 0 then -5 else if y.toNatClampNeg < cnt (T 0) then (match T (pos T y.toNatClampNeg) with
  | none => -5
  | some (_, _, k) => nI k) else -5
/-- a place in the reference's arrays -/
def em (A : Nat → Nat → Int32) (w : List Int32) (q : Nat) (r : PT) : Prop := (r = none ∧ A 1050 q = 100) ∨ ∃ c s k, r = some (c, s, k) ∧ A 1050 q = nI c ∧ A 1051 q = nI s ∧ A 1052 q = nI k ∧ 1 ≤ c ∧ c + q ≤ w.length ∧ 1 ≤ s ∧ q + s ≤ w.length ∧ k < 150
theorem em.at {A A' : Nat → Nat → Int32} {w : List Int32} {q : Nat} {r : PT} (h : em A w q r) (g : ∀ x, A' x q = A x q) : em A' w q r := by
  unfold em
  rw [g, g, g]
  exact h
abbrev rT : List Nat := [1050, 1051, 1052]
theorem pos_some {ws : List (List Int32)} {me : Nat → Bool} {l : Nat} {w : List Int32} {T : Nat → PT} (hb : ∀ q, q < w.length → bb (cand ws me l w T q) (T q)) (h0 : 1 ≤ w.length) : ∀ k, k < cnt (T 0) → pos T k < w.length ∧ ∃ s j, T (pos T k) = some (cnt (T 0) - k, s, j) := by
  intro k
  induction k with
  | zero =>
    intro hk
    refine ⟨h0, ?_⟩
    show ∃ s j, T 0 = some (cnt (T 0), s, j)
    cases h : T 0 with
    | none =>
      rw [h] at hk
      exact absurd hk (by simp [cnt])
    | some x =>
      obtain ⟨c, s, j⟩ := x
      exact ⟨s, j, rfl⟩
  | succ k ih =>
    intro hk
    obtain ⟨h1, s, j, h2⟩ := ih (by omega)
    have h3 := hb _ h1
    rw [h2] at h3
    rcases h3.1.2.2.2.2.2 with q | ⟨q1, c', s', k', q2, q3⟩
    · omega
    · have e : pos T (k + 1) = pos T k + s := by rw [pos, h2]; rfl
      rw [e]
      refine ⟨q1, s', k', ?_⟩
      rw [q2]
      have : c' = cnt (T 0) - (k + 1) := by omega
      rw [this]
section CTR
variable {d : Nat} {I A : Nat → Nat → Int32} {K : Int32 → (Nat → Nat → Int32) → (Nat → Nat → Int32) → Prop} {V : (Nat → Nat → Int32) → (Nat → Nat → Int32) → Prop} {L i k p s c0 l : Nat} {N : Nat} {xs : Nat → Int32} {u v w t o : List Int32} {ws : List (List Int32)} {me : Nat → Bool} {r : PT} {T : Nat → PT}
theorem c_lay (hd : 3 ≤ d) (hL : ev_isL L) (ho : ok ws) (hw : cw I A ws) (hb : bu I A L w) (hm : mec A ws me) (hl : I 1023 0 = nI l) (hl12 : l ≤ 12) (hl1 : 1 ≤ l) (h : ∀ T A', (∀ q, q ≤ 24 → bb (cand ws me l w T q) (T q)) → (∀ q, q ≤ 24 → ec A' w q (T q)) → fx [] pT I A I A' → V I A') : ev_Bv d 41 0 [some (.ref 1023), some (.ref L), some (.ref 1003), none, none] I A V := by
  obtain ⟨d, rfl⟩ : ∃ e, d = e + 1 := ⟨d - 1, by omega⟩
  have hL' := hL
  unfold ev_isL at hL'
  have loop : ∀ m A1 (T : Nat → PT) o4, m ≤ 25 → (∀ q, m ≤ q → q ≤ 24 → bb (cand ws me l w T q) (T q)) → (∀ q, m ≤ q → q ≤ 24 → ec A1 w q (T q)) → fx [] pT I A I A1 → ev_Bv (d + 1) 41 3 [some (.ref 1023), some (.ref L), some (.ref 1003), some (.int (nI m - 1)), o4] I A1 V := by
    intro m
    induction m with
    | zero =>
      intro A1 T o4 hm25 h1 h2 hf
      exact t_P_lay_3 hL _ _ (ct (by decide) (h T A1 (fun q hq => h1 q (by omega) hq) (fun q hq => h2 q (by omega) hq) hf))
    | succ p ih =>
      intro A1 T o4 hm25 h1 h2 hf
      have e1 : nI (p + 1) - 1 = nI p := nI_sub (a := p + 1) (b := 1) (by omega)
      rw [e1]
      refine t_P_lay_3 hL _ _ (cf npo ⟨vin (by omega), vin (by omega), vin (by omega), ?_⟩)
      rw [ncl]
      have f2 : fx [] pT I A1 I (ev_upd (ev_upd (ev_upd A1 1024 p 0) 1025 p (-5)) 1026 p 0) := fx.tr (fx.au (by decide)) (fx.tr (fx.au (by decide)) (fx.au (by decide)))
      have a2 : ∀ x q, q ≠ p → (ev_upd (ev_upd (ev_upd A1 1024 p 0) 1025 p (-5)) 1026 p 0) x q = A1 x q := fun x q hq => by
        rw [ev_upd_nk (fun c => hq c.2), ev_upd_nk (fun c => hq c.2), ev_upd_nk (fun c => hq c.2)]
      have z2 : (ev_upd (ev_upd (ev_upd A1 1024 p 0) 1025 p (-5)) 1026 p 0) 1024 p = 0 := by
        rw [ev_upd_ne (by decide), ev_upd_ne (by decide), ev_upd_eq]
      generalize ev_upd (ev_upd (ev_upd A1 1024 p 0) 1025 p (-5)) 1026 p 0 = A2 at f2 a2 z2 ⊢
      have f3 := hf.tr f2
      refine c_lay_w (T := T) (by omega) hL ho (hw.fx f3 (by decide) (by decide) (by decide)) (hb.fx f3 (by simp) (by simp; omega)) (hm.fx f3 (by decide)) hl hl12 hl1 (by omega) (fun q hq1 hq2 => (h2 q (by omega) hq2).at (fun x => a2 x q (by omega))) (fun r A4 b4 e4 a4 f4 o4 => ?_) ws.length 0 A2 none (by omega) (fun s k c q => absurd q.1 (by omega)) (.inl ⟨rfl, z2⟩) (fun _ _ _ => rfl) fx.rf
      have e2 : nI p + (-1) = nI p - 1 := (Int32.sub_eq_add_neg ..).symm
      rw [e2]
      have hT : ∀ q, p < q → T q = (fun q => if q = p then r else T q) q := fun q hq => (if_neg (by omega)).symm
      refine ih A4 (fun q => if q = p then r else T q) o4 (by omega) (fun q hq1 hq2 => ?_) (fun q hq1 hq2 => ?_) (f3.tr f4)
      · by_cases cq : q = p
        · subst cq
          show bb _ (if q = q then r else T q)
          rw [if_pos rfl]
          exact bb_congr (cand_congr hl1 (fun q' a b => hT q' a)) b4
        · show bb _ (if q = p then r else T q)
          rw [if_neg cq]
          exact bb_congr (cand_congr hl1 (fun q' a b => hT q' (by omega))) (h1 q (by omega) hq2)
      · show ec A4 w q (if q = p then r else T q)
        by_cases cq : q = p
        · rw [if_pos cq, cq]
          exact e4
        · rw [if_neg cq]
          exact (h2 q (by omega) hq2).at (fun x => (a4 x q cq).trans (a2 x q cq))
  exact t_P_lay_0 hL (loop 25 A (fun _ => none) none (by omega) (fun q h1 h2 => by omega) (fun q h1 h2 => by omega) fx.rf)
theorem ec_cnt (h : ec A w p r) : A 1024 p = nI (cnt r) := by
  rcases h with ⟨rfl, e⟩ | ⟨c, s, k, rfl, e, _⟩
  · exact e
  · exact e
theorem c_numberOf (h0 : 1 ≤ w.length) (h24 : w.length ≤ 24) (hb : ∀ q, q < w.length → bb (cand ws me l w T q) (T q)) (he : ∀ q, q ≤ 24 → ec A w q (T q)) {y : Int32} (hy : y ≠ -1) (h : K (pan T y) I A) : ev_Bi d 43 0 [some (.ref 1023), some (.int y), none, none] I A K := by
  unfold pan at h
  rw [if_neg hy] at h
  have ec0 : A 1024 (0 : Int32).toNatClampNeg = nI (cnt (T 0)) := ec_cnt (he 0 (by omega))
  have hc24 : cnt (T 0) ≤ 24 := by
    rcases he 0 (by omega) with ⟨e, _⟩ | ⟨c, s, k, e, _, _, _, _, e5, _⟩
    · rw [e]
      simp [cnt]
    · rw [e]
      show c ≤ 24
      omega
  refine t_P_numberOf_0 _ ⟨fun c => ?_, fun c => ⟨vin (n := 0) (by omega), ?_⟩⟩
  · rw [if_pos c] at h
    exact h
  · rw [if_neg c] at h
    rcases int_cases y with q | ⟨k, hk, rfl⟩
    · exact absurd q c
    rw [ec0]
    rw [ncl] at h
    by_cases ck : k < cnt (T 0)
    · rw [if_pos ck] at h
      refine ct (ult ck) ?_
      have loop : ∀ n j, j + n = k → ev_Bi d 43 21 [some (.ref 1023), some (.int (nI k)), some (.int (nI (pos T j))), some (.int (nI j))] I A K := by
        intro n
        induction n with
        | zero =>
          intro j hj
          have : j = k := by omega
          subst this
          obtain ⟨h1, s, j', h2⟩ := pos_some hb h0 j ck
          refine t_P_numberOf_21 _ _ _ (ct (ule (by omega)) (t_P_numberOf_45 _ _ _ (cf (nlt (a := 24) (by omega)) ⟨vin (by omega), ?_⟩)))
          rw [ncl]
          rw [h2] at h
          rcases he (pos T j) (by omega) with ⟨e, _⟩ | ⟨c, s, k, e, _, e3, _⟩
          · rw [h2] at e
            exact absurd e (by simp)
          · rw [e3]
            rw [h2] at e
            simp at e
            rw [← e.2.2]
            exact h
        | succ n ih =>
          intro j hj
          obtain ⟨h1, s, j', h2⟩ := pos_some hb h0 j (by omega)
          refine t_P_numberOf_21 _ _ _ (cf (nle (by omega)) (cf (nlt (a := 24) (by omega)) ⟨vin (by omega), ?_⟩))
          rw [ncl, nI_1]
          rcases he (pos T j) (by omega) with ⟨e, _⟩ | ⟨c, s2, k2, e, _, _, e4, _⟩
          · rw [h2] at e
            exact absurd e (by simp)
          · have ep : pos T (j + 1) = pos T j + s2 := by rw [pos, e]; rfl
            rw [e4, ← ep]
            exact ih (j + 1) (by omega)
      exact loop k 0 (by omega)
    · rw [if_neg ck] at h
      exact cf (nlt (by omega)) h
theorem c_part_s (hd : 1 ≤ d) (ho : ok ws) (hn : ws.Nodup) {I A0 : Nat → Nat → Int32} (hw : mw I A0 ws) (hr : rb I A0 w) (h24 : w.length ≤ 24) (hm : mem A0 ws me) (hl12 : l ≤ 12) (hl1 : 1 ≤ l) {T : Nat → PT} (hp : p < w.length) (hT : ∀ q, p < q → q < w.length → em A0 w q (T q)) (hTn : A0 1050 w.length = 0) {x1 y : Int32} (h : ∀ r A, bb (cand ws me l w T p) r → em A w p r → (∀ x q, q ≠ p → A x q = A0 x q) → fx [] rT I A0 I A → ∀ o4 o5 o6, ev_Bi d 169 32 [some (.ref 1033), some (.int x1), some (.int y), some (.int (nI p + (-1))), o4, o5, o6] I A K) : ∀ n s A r o5 o6, s ≤ 100 → l ≤ s → w.length < p + s + n → bb (fun s' k c => s' < s ∧ cand ws me l w T p s' k c) r → em A w p r → (∀ x q, q ≠ p → A x q = A0 x q) → fx [] rT I A0 I A → ev_Bi d 169 50 [some (.ref 1033), some (.int x1), some (.int y), some (.int (nI p)), some (.int (nI s)), o5, o6] I A K := by
  obtain ⟨d, rfl⟩ : ∃ e, d = e + 1 := ⟨d - 1, by omega⟩
  intro n
  induction n with
  | zero =>
    intro s A r o5 o6 hs1 hs2 hs3 hbb hec hA hf
    refine t_M_part_50 _ _ _ _ _ _ ?_
    rw [hr.1, nI_add]
    refine ct (ult (by omega)) (h r A (bb_congr (fun s' k c => ⟨fun q => q.2, fun q => ⟨?_, q⟩⟩) hbb) hec hA hf _ _ _)
    have := q.2.1
    omega
  | succ n ih =>
    intro s A r o5 o6 hs1 hs2 hs3 hbb hec hA hf
    have hw1 : mw I A ws := hw.fx hf (by decide) (by decide) (by decide)
    have hr1 : rb I A w := hr.fx hf (by decide) (by decide)
    have hm1 : mem A ws me := hm.fx hf (by decide)
    refine t_M_part_50 _ _ _ _ _ _ ?_
    rw [hr.1, nI_add]
    by_cases cw' : w.length < p + s
    · refine ct (ult cw') (h r A (bb_congr (fun s' k c => ⟨fun q => q.2, fun q => ⟨?_, q⟩⟩) hbb) hec hA hf _ _ _)
      have := q.2.1
      omega
    refine cf (nlt (by omega)) ?_
    have nx : ∀ A' r' x5 x6, bb (fun s' k c => s' < s + 1 ∧ cand ws me l w T p s' k c) r' → em A' w p r' → (∀ x q, q ≠ p → A' x q = A0 x q) → fx [] rT I A0 I A' → ev_Bi (d + 1) 169 175 [some (.ref 1033), some (.int x1), some (.int y), some (.int (nI p)), some (.int (nI s)), some (.int x5), some (.int x6)] I A' K := fun A' r' x5 x6 b' e' a' f' => by
      refine t_M_part_175 _ _ _ _ _ _ ?_
      rw [nI_1]
      exact ih (s + 1) A' r' _ _ (by omega) (by omega) (by omega) b' e' a' f'
    have same : (∀ k c, ¬ cand ws me l w T p s k c) → bb (fun s' k c => s' < s + 1 ∧ cand ws me l w T p s' k c) r := fun g => by
      refine bb_congr (fun s' k c => ⟨fun q => ⟨by omega, q.2⟩, fun q => ⟨?_, q.2⟩⟩) hbb
      by_cases ce : s' = s
      · rw [ce] at q
        exact absurd q.2 (g k c)
      · omega
    have s100 : ∀ x5 o6, (∀ k c, ¬ cand ws me l w T p s k c) → ev_Bi (d + 1) 169 100 [some (.ref 1033), some (.int x1), some (.int y), some (.int (nI p)), some (.int (nI s)), some (.int x5), o6] I A K := fun x5 o6 g => t_M_part_100 _ _ _ _ _ _ (c_isMemberN (z0 (nx A r _ _ (same g) hec hA hf)))
    have s78 : s < w.length → ∀ o5, ev_Bi (d + 1) 169 78 [some (.ref 1033), some (.int x1), some (.int y), some (.int (nI p)), some (.int (nI s)), o5, o6] I A K := fun hsw o5 => by
      refine t_M_part_78 _ _ _ _ _ _ ?_
      rw [nI_add, ncl (a := p + s)]
      refine ⟨vin (by omega), ?_⟩
      have hTn1 : A 1050 w.length = 0 := (hA 1050 _ (by omega)).trans hTn
      have main : ∀ c0, 1 ≤ c0 → c0 + p ≤ w.length → A 1050 (p + s) = nI (c0 - 1) → (∀ k c, cand ws me l w T p s k c ↔ (ws[k]? = some ((w.drop p).take s) ∧ me k = true ∧ c = c0)) → (((A 1050 (p + s) : Int32) < 100 → ev_Bi d 128 0 [some (.ref 1033), some (.int (nI p)), some (.int (nI s)), none, none, none] I A (fun z3 I1 A2 => ev_Bi d 164 0 [some (.ref 1033), some (.int z3)] I1 A2 (fun z7 I5 A6 => ((z7 = 0 → ev_Bi (d + 1) 169 175 [some (.ref 1033), some (.int x1), some (.int y), some (.int (nI p)), some (.int (nI s)), some (.int 0), some (.int z3)] I5 A6 K) ∧ (¬ z7 = 0 → (vp_in (nI (p + s)) 25 ∧ (vp_in (nI p) 25 ∧ (((A6 1050 (nI p : Int32).toNatClampNeg) < ((A6 1050 (p + s)) + 1) → ev_Bi (d + 1) 169 175 [some (.ref 1033), some (.int x1), some (.int y), some (.int (nI p)), some (.int (nI s)), some (.int 0), some (.int z3)] I5 A6 K) ∧ (¬ (A6 1050 (nI p : Int32).toNatClampNeg) < ((A6 1050 (p + s)) + 1) → (vp_in (nI (p + s)) 25 ∧ (vp_in (nI p) 25 ∧ (vp_in (nI p) 25 ∧ (vp_in (nI p) 25 ∧ ev_Bi (d + 1) 169 175 [some (.ref 1033), some (.int x1), some (.int y), some (.int (nI p)), some (.int (nI s)), some (.int 0), some (.int z3)] I5 (ev_upd (ev_upd (ev_upd A6 1050 (nI p : Int32).toNatClampNeg ((A6 1050 (p + s)) + 1)) 1051 (nI p : Int32).toNatClampNeg (nI s)) 1052 (nI p : Int32).toNatClampNeg z3) K))))))))))))) ∧ (¬ (A 1050 (p + s) : Int32) < 100 → ev_Bi (d + 1) 169 100 [some (.ref 1033), some (.int x1), some (.int y), some (.int (nI p)), some (.int (nI s)), some (.int 0), o6] I A K)) := fun c0 a1 a2 a3 a4 => by
        have e1 : nI (c0 - 1) + 1 = nI c0 := by
          rw [nI_1, Nat.sub_add_cancel a1]
        refine ct (by rw [a3]; exact ult (b := 100) (by omega)) (c_findM ho hw1 hr1 (by omega) (fun k hk => c_isMemberM ho hm1 (fi_get hk) (fun m => z1 ⟨vin (by omega), vin (by omega), ?_⟩) (fun m => z0 (nx A r _ _ (same (fun k' c q => ?_)) hec hA hf))) (fun hk => c_isMemberN (z0 (nx A r _ _ (same (fun k' c q => fi_no hk (List.mem_of_getElem? q.2.2.2.1))) hec hA hf))))
        · have hk' := ho.at (fi_get hk)
          have hQ : ∀ s' k' c, (s' < s + 1 ∧ cand ws me l w T p s' k' c) ↔ (s' < s ∧ cand ws me l w T p s' k' c) ∨ (s' = s ∧ k' = k ∧ c = c0) := fun s' k' c => by
            constructor
            · intro q
              by_cases ce : s' = s
              · subst ce
                have q2 := (a4 k' c).mp q.2
                have ek : k' = k := (List.getElem?_inj (List.getElem?_eq_some_iff.mp q2.1).1 hn).mp (q2.1.trans (fi_get hk).symm)
                exact .inr ⟨rfl, ek, q2.2.2⟩
              · exact .inl ⟨by omega, q.2⟩
            · rintro (q | ⟨rfl, rfl, q⟩)
              · exact ⟨by omega, q.2⟩
              · exact ⟨by omega, (a4 _ c).mpr ⟨fi_get hk, m, q⟩⟩
          rw [ncl (a := p), a3, e1]
          have upd : btr c0 s r → (vp_in (nI (p + s)) 25 ∧ (vp_in (nI p) 25 ∧ (vp_in (nI p) 25 ∧ (vp_in (nI p) 25 ∧ ev_Bi (d + 1) 169 175 [some (.ref 1033), some (.int x1), some (.int y), some (.int (nI p)), some (.int (nI s)), some (.int 0), some (.int (nI k))] I (ev_upd (ev_upd (ev_upd A 1050 p (nI c0)) 1051 p (nI s)) 1052 p (nI k)) K)))) := fun b => by
            refine ⟨vin (by omega), vin (by omega), vin (by omega), vin (by omega), nx _ (some (c0, s, k)) _ _ (bb_new hbb b hQ) (.inr ⟨c0, s, k, rfl, ?_, ?_, ?_, a1, a2, by omega, by omega, by omega⟩) (fun x q hq => ?_) (hf.tr (fx.tr (fx.au (by decide)) (fx.tr (fx.au (by decide)) (fx.au (by decide)))))⟩
            · rw [ev_upd_ne (by decide), ev_upd_ne (by decide), ev_upd_eq]
            · rw [ev_upd_ne (by decide), ev_upd_eq]
            · rw [ev_upd_eq]
            · rw [ev_upd_nk (fun c => hq c.2), ev_upd_nk (fun c => hq c.2), ev_upd_nk (fun c => hq c.2)]
              exact hA x q hq
          have hec' := hec
          rcases hec' with ⟨rfl, e⟩ | ⟨c, s', k', rfl, q1, q2, q3, q4, q5, q6, q7, q8⟩
          · rw [e]
            exact cf (nlt (a := 100) (by omega)) (upd trivial)
          · rw [q1]
            by_cases cc : c < c0
            · refine ct (ult cc) (nx A _ _ _ (bb_old hbb (fun b => ?_) hQ) hec hA hf)
              simp only [btr] at b
              omega
            · refine cf (nlt (by omega)) (upd ?_)
              have hs' := hbb.1.1
              show c0 < c ∨ (c0 = c ∧ s' < s)
              omega
        · have q2 := (a4 k' c).mp q
          have ek : k' = k := (List.getElem?_inj (List.getElem?_eq_some_iff.mp q2.1).1 hn).mp (q2.1.trans (fi_get hk).symm)
          rw [ek, m] at q2
          exact absurd q2.2.1 (by decide)
      by_cases ce : p + s = w.length
      · refine main 1 (by omega) (by omega) (by rw [ce]; exact hTn1) (fun k c => ⟨fun q => ⟨q.2.2.2.1, q.2.2.2.2.1, ?_⟩, fun q => ⟨hs2, by omega, hsw, q.1, q.2.1, .inl ⟨ce, q.2.2⟩⟩⟩)
        rcases q.2.2.2.2.2 with q | q
        · exact q.2
        · omega
      · have hT1 : em A w (p + s) (T (p + s)) := (hT _ (by omega) (by omega)).at (fun x => hA x _ (by omega))
        rcases hT1 with ⟨e1, e2⟩ | ⟨c, s', k', e1, e2, e3, e4, e5, e6, e7, e8, e9⟩
        · rw [e2]
          refine cf (by decide) (s100 _ _ (fun k c q => ?_))
          rcases q.2.2.2.2.2 with q | ⟨_, c', s', k', q, _⟩
          · exact ce q.1
          · rw [e1] at q
            exact absurd q (by simp)
        · refine main (c + 1) (by omega) (by omega) (by rw [e2]; rfl) (fun k c2 => ⟨fun q => ⟨q.2.2.2.1, q.2.2.2.2.1, ?_⟩, fun q => ⟨hs2, by omega, hsw, q.1, q.2.1, .inr ⟨by omega, c, s', k', e1, q.2.2⟩⟩⟩)
          rcases q.2.2.2.2.2 with q | ⟨_, c', s2, k2, q, q2⟩
          · omega
          · rw [e1] at q
            simp at q
            omega
    by_cases cp : p = 0
    · refine ct (by rw [cp]; rfl) ?_
      by_cases cs' : s = w.length
      · exact ct (by rw [cs']) (s100 _ _ (fun k c q => absurd q.2.2.1 (by omega)))
      · exact cf (neq cs') (s78 (by omega) _)
    · exact cf (neq (b := 0) cp) (s78 (by omega) _)
end CTR

/-! PARTS -/
abbrev PT : Type := Option (Nat × Nat × Nat)
def cand (ws : List (List Int32)) (me : Nat → Bool) (l : Nat) (w : List Int32) (T : Nat → PT) (p s k c : Nat) : Prop :=
  l ≤ s ∧ p + s ≤ w.length ∧ s < w.length ∧ ws[k]? = some ((w.drop p).take s) ∧ me k = true ∧ ((p + s = w.length ∧ c = 1) ∨ (p + s < w.length ∧ ∃ c' s' k', T (p + s) = some (c', s', k') ∧ c = c' + 1))
def bb (P : Nat → Nat → Nat → Prop) (r : PT) : Prop := match r with
  | none => ∀ s k c, ¬ P s k c
  | some (c, s, k) => P s k c ∧ ∀ s' k' c', P s' k' c' → c < c' ∨ (c = c' ∧ s' ≤ s)
theorem bb_uniq {P : Nat → Nat → Nat → Prop} (hP : ∀ s k c k' c', P s k c → P s k' c' → k = k') {r r' : PT} (h : bb P r) (h' : bb P r') : r = r' := by
  match r, r', h, h' with
  | none, none, _, _ => rfl
  | none, some (c, s, k), h, h' => exact absurd h'.1 (h s k c)
  | some (c, s, k), none, h, h' => exact absurd h.1 (h' s k c)
  | some (c, s, k), some (c', s', k'), h, h' =>
    have h1 := h.2 s' k' c' h'.1
    have h2 := h'.2 s k c h.1
    have e1 : c = c' := by omega
    have e2 : s = s' := by omega
    subst e1
    subst e2
    rw [hP s k c k' c h.1 h'.1]
theorem bb_congr {P Q : Nat → Nat → Nat → Prop} (h : ∀ s k c, P s k c ↔ Q s k c) {r : PT} (hb : bb P r) : bb Q r := by
  match r, hb with
  | none, hb => exact fun s k c q => hb s k c ((h s k c).mpr q)
  | some (c, s, k), hb => exact ⟨(h s k c).mp hb.1, fun s' k' c' q => hb.2 s' k' c' ((h s' k' c').mpr q)⟩
def btr (c0 s0 : Nat) (r : PT) : Prop := match r with
  | none => True
  | some (c, s, _) => c0 < c ∨ (c0 = c ∧ s < s0)
theorem bb_new {P Q : Nat → Nat → Nat → Prop} {c0 s0 k0 : Nat} {r : PT} (h : bb P r) (hb : btr c0 s0 r) (hQ : ∀ s k c, Q s k c ↔ P s k c ∨ (s = s0 ∧ k = k0 ∧ c = c0)) : bb Q (some (c0, s0, k0)) := by
  refine ⟨(hQ _ _ _).mpr (.inr ⟨rfl, rfl, rfl⟩), fun s' k' c' q => ?_⟩
  rcases (hQ _ _ _).mp q with q | ⟨q1, q2, q3⟩
  · match r, h, hb with
    | none, h, _ => exact absurd q (h _ _ _)
    | some (c, s, k), h, hb =>
      have := h.2 s' k' c' q
      simp only [btr] at hb
      omega
  · omega
theorem bb_old {P Q : Nat → Nat → Nat → Prop} {c0 s0 k0 : Nat} {r : PT} (h : bb P r) (hb : ¬ btr c0 s0 r) (hQ : ∀ s k c, Q s k c ↔ P s k c ∨ (s = s0 ∧ k = k0 ∧ c = c0)) : bb Q r := by
  match r, h, hb with
  | none, _, hb => exact absurd trivial hb
  | some (c, s, k), h, hb =>
    refine ⟨(hQ _ _ _).mpr (.inl h.1), fun s' k' c' q => ?_⟩
    simp only [btr] at hb
    rcases (hQ _ _ _).mp q with q | ⟨q1, q2, q3⟩
    · exact h.2 s' k' c' q
    · omega
theorem cand_k {ws : List (List Int32)} {me : Nat → Bool} {l : Nat} {w : List Int32} {T : Nat → PT} (hn : ws.Nodup) {p : Nat} : ∀ s k c k' c', cand ws me l w T p s k c → cand ws me l w T p s k' c' → k = k' := fun s k c k' c' h h' =>
  (List.getElem?_inj (List.getElem?_eq_some_iff.mp h.2.2.2.1).1 hn).mp (h.2.2.2.1.trans h'.2.2.2.1.symm)
theorem cand_congr {ws : List (List Int32)} {me : Nat → Bool} {l : Nat} {w : List Int32} {T T' : Nat → PT} {p : Nat} (hl : 1 ≤ l) (h : ∀ q, p < q → q < w.length → T q = T' q) (s k c : Nat) : cand ws me l w T p s k c ↔ cand ws me l w T' p s k c := by
  unfold cand
  constructor
  · rintro ⟨a1, a2, a3, a4, a5, a6⟩
    refine ⟨a1, a2, a3, a4, a5, a6.imp id ?_⟩
    rintro ⟨b1, b2⟩
    rw [h _ (by omega) b1] at b2
    exact ⟨b1, b2⟩
  · rintro ⟨a1, a2, a3, a4, a5, a6⟩
    refine ⟨a1, a2, a3, a4, a5, a6.imp id ?_⟩
    rintro ⟨b1, b2⟩
    rw [← h _ (by omega) b1] at b2
    exact ⟨b1, b2⟩
theorem tab_eq {ws : List (List Int32)} {me : Nat → Bool} {l : Nat} {w : List Int32} {T T' : Nat → PT} (hn : ws.Nodup) (hl : 1 ≤ l) (h : ∀ q, q < w.length → bb (cand ws me l w T q) (T q)) (h' : ∀ q, q < w.length → bb (cand ws me l w T' q) (T' q)) : ∀ m q, q < w.length → w.length ≤ q + m → T q = T' q := by
  intro m
  induction m with
  | zero => intro q h1 h2; omega
  | succ m ih =>
    intro q h1 h2
    have hb := h' q h1
    have hc := bb_congr (cand_congr hl (fun q' a b => ih q' b (by omega))) (h q h1)
    exact bb_uniq (cand_k hn) hc hb
/-- a place in the class's arrays -/
def ec (A : Nat → Nat → Int32) (w : List Int32) (q : Nat) (r : PT) : Prop := (r = none ∧ A 1024 q = 0) ∨ ∃ c s k, r = some (c, s, k) ∧ A 1024 q = nI c ∧ A 1025 q = nI k ∧ A 1026 q = nI (q + s) ∧ 1 ≤ c ∧ c + q ≤ w.length ∧ 1 ≤ s ∧ q + s ≤ w.length ∧ k < 150
theorem ec.at {A A' : Nat → Nat → Int32} {w : List Int32} {q : Nat} {r : PT} (h : ec A w q r) (g : ∀ x, A' x q = A x q) : ec A' w q r := by
  unfold ec
  rw [g, g, g]
  exact h
abbrev pT : List Nat := [1024, 1025, 1026]
section CTR
variable {d : Nat} {I A : Nat → Nat → Int32} {K : Int32 → (Nat → Nat → Int32) → (Nat → Nat → Int32) → Prop} {V : (Nat → Nat → Int32) → (Nat → Nat → Int32) → Prop} {L i k p s c0 l : Nat} {N : Nat} {xs : Nat → Int32} {u v w t o : List Int32} {ws : List (List Int32)} {me : Nat → Bool} {r : PT}
theorem c_mayStand (hd : 2 ≤ d) (hL : ev_isL L) (hw : cw I A ws) (ho : ok ws) (hb : bu I A L w) (hm : mec A ws me) (hl : I 1023 0 = nI l) (hl12 : l ≤ 12) (hi : ws[i]? = some v) (hp : p ≤ 24) (h1 : l ≤ v.length → v.length < w.length → me i = true → sa w p v → K 1 I A) (h0 : ¬ (l ≤ v.length ∧ v.length < w.length ∧ me i = true ∧ sa w p v) → K 0 I A) : ev_Bi d 44 0 [some (.ref 1023), some (.int (nI i)), some (.ref L), some (.int (nI p)), some (.ref 1003), none] I A K := by
  obtain ⟨d, rfl⟩ : ∃ e, d = e + 1 := ⟨d - 1, by omega⟩
  have hk := ho.at hi
  have h24 := hb.2.1
  refine t_P_mayStand_0 hL _ _ (c_sizeOf (by omega) hw ho hi ?_)
  rw [hl]
  by_cases c1 : v.length < l
  · exact ct (ult c1) (h0 (fun k => absurd k.1 (by omega)))
  refine cf (nlt (by omega)) (c_size hL hb ?_)
  by_cases c2 : w.length ≤ v.length
  · exact ct (ule c2) (h0 (fun k => absurd k.2.1 (by omega)))
  refine cf (nle (by omega)) (c_isMarked (m := 2) (by omega) hw ho (by omega) hi (fun g => z1 ?_) (fun g => z0 (h0 ?_)))
  · have eme : me i = true := by
      cases hz : me i with
      | true => rfl
      | false => exact absurd ((hm i hk.2.1).mpr hz) g
    exact c_standsAt (by omega) hL hw ho hi hb (by omega) (fun s => z1 (h1 (by omega) (by omega) eme s)) (fun s => z0 (h0 (fun k => s k.2.2.2)))
  · have eme := (hm i hk.2.1).mp g
    rw [eme]
    exact fun k => absurd k.2.2.1 (by decide)
theorem c_noteF (h24 : w.length ≤ 24) (hp : p + s ≤ w.length) (hs : 1 ≤ s) (hk : k < 150) (hec : ec A w p r) (hc : A 1024 (p + s) = nI (c0 - 1)) (h1 : 1 ≤ c0) (hcl : c0 + p ≤ w.length) (hz : p + s < w.length → c0 ≠ 1) (hy : btr c0 s r → ∀ A', ec A' w p (some (c0, s, k)) → (∀ x q, q ≠ p → A' x q = A x q) → fx [] pT I A I A' → V I A') (hn : ¬ btr c0 s r → V I A) : ev_Bv d 45 0 [some (.ref 1023), some (.int (nI k)), some (.int (nI p)), some (.int (nI (p + s))), some (.int (nI w.length)), none, none] I A V := by
  have s102 : ∀ x5 x6 : Int32, x5 = nI c0 → btr c0 s r → ev_Bv d 45 102 [some (.ref 1023), some (.int (nI k)), some (.int (nI p)), some (.int (nI (p + s))), some (.int (nI w.length)), some (.int x5), some (.int x6)] I A V := fun x5 x6 e g => by
    subst e
    refine t_P_noteFirst_102 _ _ _ _ _ _ ⟨vin (by omega), vin (by omega), vin (by omega), ?_⟩
    rw [ncl]
    refine hy g _ (.inr ⟨c0, s, k, rfl, ?_, ?_, ?_, h1, hcl, hs, hp, hk⟩) (fun x q hq => ?_) (fx.tr (fx.au (by decide)) (fx.tr (fx.au (by decide)) (fx.au (by decide))))
    · rw [ev_upd_ne (by decide), ev_upd_ne (by decide), ev_upd_eq]
    · rw [ev_upd_ne (by decide), ev_upd_eq]
    · rw [ev_upd_eq]
    · rw [ev_upd_nk (fun c => hq c.2), ev_upd_nk (fun c => hq c.2), ev_upd_nk (fun c => hq c.2)]
  have e1 : nI (c0 - 1) + 1 = nI c0 := by
    rw [nI_1, Nat.sub_add_cancel h1]
  have s39 : ev_Bv d 45 39 [some (.ref 1023), some (.int (nI k)), some (.int (nI p)), some (.int (nI (p + s))), some (.int (nI w.length)), none, none] I A V := by
    refine t_P_noteFirst_39 _ _ _ _ _ _ ⟨vin (by omega), vin (by omega), ?_⟩
    rw [ncl (a := p), ncl (a := p + s), hc, e1]
    rcases hec with ⟨rfl, e⟩ | ⟨c, s', k', rfl, q1, q2, q3, q4, q5, q6, q7, q8⟩
    · rw [e]
      exact ct rfl (t_P_noteFirst_69 _ _ _ _ _ _ (s102 _ _ rfl trivial))
    · rw [q1, q3]
      refine cf (neq (b := 0) (by omega)) ⟨vin (by omega), ?_⟩
      by_cases cc : c ≤ c0
      · refine ct (ule cc) ⟨vin (by omega), ?_⟩
        by_cases ce : c0 = c
        · refine ct (by rw [ce]) ⟨vin (by omega), ?_⟩
          by_cases cs' : p + s ≤ p + s'
          · refine ct (ule cs') (hn (fun k => ?_))
            simp only [btr] at k
            omega
          · exact cf (nle (by omega)) (s102 _ _ rfl (.inr ⟨ce, by omega⟩))
        · refine cf (neq ce) (hn (fun k => ?_))
          simp only [btr] at k
          omega
      · exact cf (nle (by omega)) (t_P_noteFirst_69 _ _ _ _ _ _ (s102 _ _ rfl (.inl (by omega))))
  refine t_P_noteFirst_0 _ _ _ _ (cf npo (cf (nle (by omega)) (cf (nlt (by omega)) (ct (ule (b := 24) h24) ?_))))
  by_cases ce : w.length ≤ p + s
  · exact ct (ule ce) s39
  · refine cf (nle (by omega)) ⟨vin (by omega), ?_⟩
    rw [ncl, hc]
    have := hz (by omega)
    exact cf (neq (b := 0) (by omega)) s39
theorem c_noteF0 (h24 : w.length ≤ 24) (hp : p + s < w.length) (hs : 1 ≤ s) (hc : A 1024 (p + s) = 0) (h : V I A) : ev_Bv d 45 0 [some (.ref 1023), some (.int (nI k)), some (.int (nI p)), some (.int (nI (p + s))), some (.int (nI w.length)), none, none] I A V := by
  refine t_P_noteFirst_0 _ _ _ _ (cf npo (cf (nle (by omega)) (cf (nlt (by omega)) (ct (ule (b := 24) h24) (cf (nle (by omega)) ⟨vin (by omega), ?_⟩)))))
  rw [ncl, hc]
  exact ct rfl h
theorem c_lay_w (hd : 3 ≤ d) (hL : ev_isL L) (ho : ok ws) {I A0 : Nat → Nat → Int32} (hw : cw I A0 ws) (hb : bu I A0 L w) (hm : mec A0 ws me) (hl : I 1023 0 = nI l) (hl12 : l ≤ 12) (hl1 : 1 ≤ l) {T : Nat → PT} (hp : p ≤ 24) (hT : ∀ q, p < q → q ≤ 24 → ec A0 w q (T q)) (h : ∀ r A, bb (cand ws me l w T p) r → ec A w p r → (∀ x q, q ≠ p → A x q = A0 x q) → fx [] pT I A0 I A → ∀ o4, ev_Bv d 41 3 [some (.ref 1023), some (.ref L), some (.ref 1003), some (.int (nI p + (-1))), o4] I A V) : ∀ n j A r, j + n = ws.length → bb (fun s k c => k < j ∧ cand ws me l w T p s k c) r → ec A w p r → (∀ x q, q ≠ p → A x q = A0 x q) → fx [] pT I A0 I A → ev_Bv d 41 32 [some (.ref 1023), some (.ref L), some (.ref 1003), some (.int (nI p)), some (.int (nI j))] I A V := by
  obtain ⟨d, rfl⟩ : ∃ e, d = e + 1 := ⟨d - 1, by omega⟩
  have h150 := ho.1
  have h24 := hb.2.1
  have hL' := hL
  unfold ev_isL at hL'
  intro n
  induction n with
  | zero =>
    intro j A r hj hbb hec hA hf
    have hw1 : cw I A ws := hw.fx hf (by decide) (by decide) (by decide)
    refine t_P_lay_32 hL _ _ (t_W_count_0 ?_)
    rw [hw1.1]
    refine ct (ule (by omega)) (h r A (bb_congr (fun s k c => ⟨fun q => q.2, fun q => ⟨?_, q⟩⟩) hbb) hec hA hf _)
    have := (List.getElem?_eq_some_iff.mp q.2.2.2.1).1
    omega
  | succ n ih =>
    intro j A r hj hbb hec hA hf
    have hw1 : cw I A ws := hw.fx hf (by decide) (by decide) (by decide)
    have hb1 : bu I A L w := hb.fx hf (by simp) (by simp; omega)
    have hm1 : mec A ws me := hm.fx hf (by decide)
    have hq : ws[j]? = some ws[j] := List.getElem?_eq_getElem (by omega)
    generalize ws[j] = v at hq
    have hk := ho.at hq
    have hvne : v ≠ [] := fun c => by
      rw [c] at hk
      simp at hk
    refine t_P_lay_32 hL _ _ (t_W_count_0 ?_)
    rw [hw1.1]
    have nx : ∀ A' r', bb (fun s k c => k < j + 1 ∧ cand ws me l w T p s k c) r' → ec A' w p r' → (∀ x q, q ≠ p → A' x q = A0 x q) → fx [] pT I A0 I A' → ev_Bv (d + 1) 41 72 [some (.ref 1023), some (.ref L), some (.ref 1003), some (.int (nI p)), some (.int (nI j))] I A' V := fun A' r' b' e' a' f' => by
      refine t_P_lay_72 hL _ _ ?_
      rw [nI_1]
      exact ih (j + 1) A' r' (by omega) b' e' a' f'
    have same : (∀ s c, ¬ cand ws me l w T p s j c) → bb (fun s k c => k < j + 1 ∧ cand ws me l w T p s k c) r := fun g => by
      refine bb_congr (fun s k c => ⟨fun q => ⟨by omega, q.2⟩, fun q => ⟨?_, q.2⟩⟩) hbb
      by_cases ce : k = j
      · rw [ce] at q
        exact absurd q.2 (g s c)
      · omega
    refine cf (nle (by omega)) (c_mayStand (by omega) hL hw1 ho hb1 hm1 hl hl12 hq hp (fun g1 g2 g3 g4 => z1 (c_sizeOf (by omega) hw1 ho hq (c_size hL hb1 ?_))) (fun g => z0 (nx A r (same (fun s c q => g ?_)) hec hA hf)))
    · rw [nI_add]
      have hps : p + v.length ≤ w.length := ((sa_iff hvne).mp g4).1
      have hT1 : ec A w (p + v.length) (T (p + v.length)) := (hT _ (by omega) (by omega)).at (fun x => hA x _ (by omega))
      have cj : ∀ s c, cand ws me l w T p s j c → s = v.length := fun s c q => by
        have e := q.2.2.2.1
        rw [hq, Option.some.injEq] at e
        have e2 := congrArg List.length e
        rw [List.length_take, List.length_drop] at e2
        have := q.2.1
        omega
      have main : ∀ c0, A 1024 (p + v.length) = nI (c0 - 1) → 1 ≤ c0 → c0 + p ≤ w.length → (p + v.length < w.length → c0 ≠ 1) → (∀ c, cand ws me l w T p v.length j c ↔ c = c0) → ev_Bv d 45 0 [some (.ref 1023), some (.int (nI j)), some (.int (nI p)), some (.int (nI (p + v.length))), some (.int (nI w.length)), none, none] I A (fun I17 A18 => ev_Bv (d + 1) 41 72 [some (.ref 1023), some (.ref L), some (.ref 1003), some (.int (nI p)), some (.int (nI j))] I17 A18 V) := fun c0 a1 a2 a3 a4 a5 => by
        have hQ : ∀ s k c, (k < j + 1 ∧ cand ws me l w T p s k c) ↔ (k < j ∧ cand ws me l w T p s k c) ∨ (s = v.length ∧ k = j ∧ c = c0) := fun s k c => by
          constructor
          · intro q
            by_cases ce : k = j
            · subst ce
              have es := cj s c q.2
              subst es
              exact .inr ⟨rfl, rfl, (a5 c).mp q.2⟩
            · exact .inl ⟨by omega, q.2⟩
          · rintro (q | ⟨rfl, rfl, q⟩)
            · exact ⟨by omega, q.2⟩
            · exact ⟨by omega, (a5 c).mpr q⟩
        exact c_noteF h24 hps (by omega) (by omega) hec a1 a2 a3 a4 (fun b A' e' a' f' => nx A' _ (bb_new hbb b hQ) e' (fun x q hq' => (a' x q hq').trans (hA x q hq')) (hf.tr f')) (fun b => nx A r (bb_old hbb b hQ) hec hA hf)
      have c_ok : ∀ c, ((p + v.length = w.length ∧ c = 1) ∨ (p + v.length < w.length ∧ ∃ c' s' k', T (p + v.length) = some (c', s', k') ∧ c = c' + 1)) → cand ws me l w T p v.length j c := fun c q => ⟨g1, hps, g2, by rw [hq, g4], g3, q⟩
      rcases hT1 with ⟨e1, e2⟩ | ⟨c, s', k', e1, e2, e3, e4, e5, e6, e7, e8, e9⟩
      · by_cases ce : p + v.length = w.length
        · refine main 1 (by rw [e2]; rfl) (by omega) (by omega) (fun q => by omega) (fun c => ⟨fun q => ?_, fun q => c_ok c (.inl ⟨ce, q⟩)⟩)
          rcases q.2.2.2.2.2 with q | q
          · exact q.2
          · omega
        · refine c_noteF0 h24 (by omega) (by omega) e2 (nx A r (same (fun s c q => ?_)) hec hA hf)
          have es := cj s c q
          subst es
          rcases q.2.2.2.2.2 with q | ⟨_, c', s', k', q, _⟩
          · exact ce q.1
          · rw [e1] at q
            exact absurd q (by simp)
      · refine main (c + 1) (by rw [e2]; rfl) (by omega) (by omega) (fun q => by omega) (fun c2 => ⟨fun q => ?_, fun q => c_ok c2 (.inr ⟨by omega, c, s', k', e1, q⟩)⟩)
        rcases q.2.2.2.2.2 with q | ⟨_, c', s2, k2, q, q2⟩
        · omega
        · rw [e1] at q
          simp at q
          omega
    · have e := q.2.2.2.1
      rw [hq, Option.some.injEq] at e
      have e2 := congrArg List.length e
      rw [List.length_take, List.length_drop] at e2
      have h1 := q.2.1
      have es : s = v.length := by omega
      subst es
      exact ⟨q.1, q.2.2.1, q.2.2.2.2.1, e.symm⟩
end CTR

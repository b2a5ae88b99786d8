/-! PORTER: the class's steps -/
abbrev Row : Type := List Int32 × List Int32 × Int32
def s1 (w : List Int32) (acc : Option Row) (r : Row) : Option Row := if r.1 <:+ w then (match acc with
  | none => some r
  | some a => if a.1.length < r.1.length then some r else some a) else acc
def lg (R : List Row) (w : List Int32) : Option Row := R.foldl (s1 w) none
abbrev erow (q : Int32 × Int32 × Nat × Nat) : Row := (tx q.2.2.1, tx q.2.2.2, q.2.1)
def ers (s : Int32) (i : Nat) : List Row := ((ev_ens.take i).filter (fun q => decide (q.1 = s))).map erow
theorem en_len : ev_ens.length = 54 := by decide
set_option maxRecDepth 100000 in
theorem en_ok : ∀ q ∈ ev_ens, q.2.2.1 < 110 ∧ q.2.2.2 < 110 ∧ tx q.2.2.1 ≠ [] ∧ (tx q.2.2.2).length ≤ (tx q.2.2.1).length ∧ (q.2.1 = 0 ∨ q.2.1 = 1 ∨ q.2.1 = 2 ∨ q.2.1 = 3 ∨ q.2.1 = 4 ∨ q.2.1 = 5) := by decide +kernel
set_option maxRecDepth 100000 in
theorem en_ed : ∀ i : Fin 54, ((tx (ev_ens.getD i.val (0, 0, 0, 0)).2.2.1 = [101, 100]) ↔ i.val = 5) ∧ ((tx (ev_ens.getD i.val (0, 0, 0, 0)).2.2.1 = [105, 110, 103]) ↔ i.val = 6) ∧ (i.val = 5 ∨ i.val = 6 → tx (ev_ens.getD i.val (0, 0, 0, 0)).2.2.2 = [] ∧ (ev_ens.getD i.val (0, 0, 0, 0)).2.1 = 3) := by decide +kernel
theorem of_en {i : Nat} {q : Int32 × Int32 × Nat × Nat} (h : ev_ens[i]? = some q) : i < 54 ∧ (400 + i < 1000 ∧ ev_of (400 + i) 1344 = some (.int q.1)) ∧ (400 + i < 1000 ∧ ev_of (400 + i) 1345 = some (.int q.2.1)) ∧ (400 + i < 1000 ∧ ev_of (400 + i) 1346 = some (.ref q.2.2.1)) ∧ (400 + i < 1000 ∧ ev_of (400 + i) 1347 = some (.ref q.2.2.2)) := by
  have hi : i < 54 := by
    have := (List.getElem?_eq_some_iff.mp h).1
    rw [en_len] at this
    exact this
  have e : 400 + i - 400 = i := by omega
  refine ⟨hi, ⟨by omega, ?_⟩, ⟨by omega, ?_⟩, ⟨by omega, ?_⟩, ⟨by omega, ?_⟩⟩ <;> · unfold ev_of; rw [if_neg (by omega), if_pos (by omega), e, h]; simp
theorem ers_succ {s : Int32} {i : Nat} {q : Int32 × Int32 × Nat × Nat} (h : ev_ens[i]? = some q) : ers s (i + 1) = if q.1 = s then ers s i ++ [erow q] else ers s i := by
  unfold ers
  rw [List.take_add_one, h, List.filter_append, List.map_append]
  by_cases c : q.1 = s
  · rw [if_pos c]
    simp [c]
  · rw [if_neg c]
    simp [c]
abbrev hl (nd : Int32) (w : List Int32) (n : Nat) : Prop := (nd = 0) ∨ (nd = 1 ∧ 0 < ms w n) ∨ (nd = 2 ∧ 1 < ms w n) ∨ (nd = 3 ∧ hv w n) ∨ (nd = 4 ∧ 1 < ms w n ∧ (w.getD (n - 1) 0 = 115 ∨ w.getD (n - 1) 0 = 116)) ∨ (nd = 5 ∧ (1 < ms w n ∨ (ms w n = 1 ∧ ¬ so w n)))
/-- the mending behind ed and ing -/
def mnd (u : List Int32) : List Int32 :=
  if [97, 116] <:+ u ∨ [98, 108] <:+ u ∨ [105, 122] <:+ u then u ++ [101]
  else if db u u.length ∧ u.getD (u.length - 1) 0 ≠ 108 ∧ u.getD (u.length - 1) 0 ≠ 115 ∧ u.getD (u.length - 1) 0 ≠ 122 then u.take (u.length - 1)
  else if ms u u.length = 1 ∧ so u u.length then u ++ [101] else u
def ptl (w : List Int32) (r : Row) : List Int32 :=
  if hl r.2.2 w (w.length - r.1.length) then (if r.1 = [101, 100] ∨ r.1 = [105, 110, 103] then mnd (w.take (w.length - r.1.length) ++ r.2.1) else w.take (w.length - r.1.length) ++ r.2.1) else w
def pst (k : Nat) (w : List Int32) : List Int32 :=
  if k = 2 then (if w.getD (w.length - 1) 0 = 121 ∧ hv w (w.length - 1) then w.set (w.length - 1) 105 else w)
  else if k = 7 then (if [108, 108] <:+ w ∧ 1 < ms w w.length then w.take (w.length - 1) else w)
  else match lg (ers (nI k) 54) w with
    | none => w
    | some r => ptl w r
def prs (w : List Int32) : Nat → List Int32
  | 0 => w
  | k + 1 => pst k (prs w k)
/-- Porter's steps up to last -/
def por (last : Nat) (w : List Int32) : List Int32 := if 2 < w.length then prs w (last + 1) else w
section CTR
variable {d : Nat} {I A : Nat → Nat → Int32} {K : Int32 → (Nat → Nat → Int32) → (Nat → Nat → Int32) → Prop} {R : Option Nat → (Nat → Nat → Int32) → (Nat → Nat → Int32) → Prop} {V : (Nat → Nat → Int32) → (Nat → Nat → Int32) → Prop} {L n : Nat} {u w : List Int32} {z : Int32}
theorem c_holds (hd : 2 ≤ d) (hL : ev_isL L) (hb : bu I A L w) (hn : n ≤ w.length) (hc : cbn z w n) {nd : Int32} (hnd : nd = 0 ∨ nd = 1 ∨ nd = 2 ∨ nd = 3 ∨ nd = 4 ∨ nd = 5) (h1 : hl nd w n → K 1 I A) (h0 : ¬ hl nd w n → K 0 I A) : ev_Bi d 54 0 [some (.int nd), some (.ref L), some (.int (nI n)), some (.int z), none] I A K := by
  obtain ⟨d, rfl⟩ : ∃ e, d = e + 1 := ⟨d - 1, by omega⟩
  have hl' := hb.2.1
  have hm : ms w n ≤ n := ms_lt
  refine t_O_holds_0 hL _ _ _ (c_measureOf (by omega) hc (by omega) ?_)
  rcases hnd with rfl | rfl | rfl | rfl | rfl | rfl
  · exact t_O_holds_8sd hL _ _ _ _ _ (.inl (by decide)) (h1 (.inl rfl))
  · refine t_O_holds_8s1 hL _ _ _ _ ?_
    by_cases c : 0 < ms w n
    · exact cf (nle (b := 0) c) (h1 (.inr (.inl ⟨rfl, c⟩)))
    · refine ct (ule (b := 0) (by omega)) (h0 ?_)
      rintro (m | ⟨_, m⟩ | ⟨m, _⟩ | ⟨m, _⟩ | ⟨m, _⟩ | ⟨m, _⟩)
      · exact absurd m (by decide)
      · exact c m
      · exact absurd m (by decide)
      · exact absurd m (by decide)
      · exact absurd m (by decide)
      · exact absurd m (by decide)
  · refine t_O_holds_8s2 hL _ _ _ _ ?_
    by_cases c : 1 < ms w n
    · exact cf (nle (b := 1) c) (h1 (.inr (.inr (.inl ⟨rfl, c⟩))))
    · refine ct (ule (b := 1) (by omega)) (h0 ?_)
      rintro (m | ⟨m, _⟩ | ⟨_, m⟩ | ⟨m, _⟩ | ⟨m, _⟩ | ⟨m, _⟩)
      · exact absurd m (by decide)
      · exact absurd m (by decide)
      · exact c m
      · exact absurd m (by decide)
      · exact absurd m (by decide)
      · exact absurd m (by decide)
  · refine t_O_holds_8s3 hL _ _ _ _ (c_hasV (by omega) hc (by omega) (fun k => ⟨by decide, h1 (.inr (.inr (.inr (.inl ⟨rfl, k⟩))))⟩) (fun k => ⟨by decide, h0 (fun m => k ?_)⟩))
    rcases m with m | ⟨m, _⟩ | ⟨m, _⟩ | ⟨_, m⟩ | ⟨m, _⟩ | ⟨m, _⟩
    · exact absurd m (by decide)
    · exact absurd m (by decide)
    · exact absurd m (by decide)
    · exact m
    · exact absurd m (by decide)
    · exact absurd m (by decide)
  · refine t_O_holds_8s4 hL _ _ _ _ ?_
    have no : ¬ (1 < ms w n ∧ (w.getD (n - 1) 0 = 115 ∨ w.getD (n - 1) 0 = 116)) → ¬ hl 4 w n := fun k m => by
      rcases m with m | ⟨m, _⟩ | ⟨m, _⟩ | ⟨m, _⟩ | ⟨_, m⟩ | ⟨m, _⟩
      · exact absurd m (by decide)
      · exact absurd m (by decide)
      · exact absurd m (by decide)
      · exact absurd m (by decide)
      · exact k m
      · exact absurd m (by decide)
    by_cases c : 1 < ms w n
    · have e1 : nI n - 1 = nI (n - 1) := nI_sub (b := 1) (by omega)
      rw [e1]
      refine cf (nle (b := 1) c) (c_at hL hb (by omega) ⟨fun q => h1 (.inr (.inr (.inr (.inr (.inl ⟨rfl, c, .inl q⟩))))), fun q => c_at hL hb (by omega) ⟨fun q' => h1 (.inr (.inr (.inr (.inr (.inl ⟨rfl, c, .inr q'⟩))))), fun q' => h0 (no (fun k => ?_))⟩⟩)
      rcases k.2 with k | k
      · exact q k
      · exact q' k
    · exact ct (ule (b := 1) (by omega)) (h0 (no (fun k => c k.1)))
  · refine t_O_holds_8s5 hL _ _ _ _ ?_
    have no : ¬ (1 < ms w n ∨ (ms w n = 1 ∧ ¬ so w n)) → ¬ hl 5 w n := fun k m => by
      rcases m with m | ⟨m, _⟩ | ⟨m, _⟩ | ⟨m, _⟩ | ⟨m, _⟩ | ⟨_, m⟩
      · exact absurd m (by decide)
      · exact absurd m (by decide)
      · exact absurd m (by decide)
      · exact absurd m (by decide)
      · exact absurd m (by decide)
      · exact k m
    by_cases c : 1 < ms w n
    · exact ct (ult (a := 1) c) (h1 (.inr (.inr (.inr (.inr (.inr ⟨rfl, .inl c⟩))))))
    · refine cf (nlt (b := ms w n) (a := 1) (by omega)) ?_
      by_cases c1 : ms w n = 1
      · refine ct (by rw [c1]; rfl) (c_endsShort (by omega) hL hb (by omega) hc (fun k => z1 (h0 (no (fun m => ?_)))) (fun k => z0 (h1 (.inr (.inr (.inr (.inr (.inr ⟨rfl, .inr ⟨c1, k⟩⟩))))))))
        rcases m with m | m
        · exact c m
        · exact m.2 k
      · refine cf (neq (b := 1) c1) (h0 (no (fun m => ?_)))
        rcases m with m | m
        · exact c m
        · exact c1 m.1
abbrev eref (b : Option Nat) : Value := match b with
  | none => .null
  | some i => .ref (400 + i)
abbrev eor (b : Option Nat) : Option Row := match b with
  | none => none
  | some i => (ev_ens[i]?).map erow
theorem c_ce_l (hd : 7 ≤ d) (hL : ev_isL L) (hb : bu I A L w) {s : Int32} (h0 : lg (ers s 54) w = none → R none I A) (h1 : ∀ i q, ev_ens[i]? = some q → lg (ers s 54) w = some (erow q) → ev_Bi (d - 1) 54 0 [some (.int q.2.1), some (.ref L), some (.int (nI w.length - nI (tx q.2.2.1).length)), some (.int z), none] I A (fun z15 I13 A14 => ((z15 = 0 → R none I13 A14) ∧ (¬ z15 = 0 → ev_Bi (d - 1) 38 0 [some (.ref L), some (.ref q.2.2.1), some (.ref q.2.2.2), none] I13 A14 (fun z23 I21 A22 => R (some (400 + i)) I21 A22))))) : ∀ n j b o5, j + n = 54 → (∀ i, b = some i → i < 54) → eor b = lg (ers s j) w → ev_Br d 53 5 [some (.ref L), some (.int s), some (.int z), some (eref b), some (.int (nI j)), o5] I A R := by
  obtain ⟨d, rfl⟩ : ∃ e, d = e + 1 := ⟨d - 1, by omega⟩
  simp only [Nat.add_sub_cancel] at h1
  have hl := hb.2.1
  intro n
  induction n with
  | zero =>
    intro j b o5 hj hb54 heq
    have hj54 : j = 54 := by omega
    subst hj54
    cases b with
    | none => exact t_O_end_n hL _ _ _ _ (ule (a := 54) (by omega)) (h0 heq.symm)
    | some i =>
      have hi := hb54 i rfl
      have hq : ev_ens[i]? = some ev_ens[i] := List.getElem?_eq_getElem (by rw [en_len]; exact hi)
      generalize ev_ens[i]'(by rw [en_len]; exact hi) = q at hq
      have ho := of_en hq
      have hk := en_ok q (List.mem_of_getElem? hq)
      refine t_O_end_r hL _ _ _ _ _ _ _ _ _ ho.2.2.1 ho.2.2.2.1 hk.1 ho.2.2.2.1 ho.2.2.2.2 (ule (a := 54) (by omega)) ⟨⟨by omega, by omega⟩, c_size hL hb (c_length (by omega) hk.1 (h1 i q hq ?_))⟩
      rw [← heq]
      show (ev_ens[i]?).map erow = _
      rw [hq]
      rfl
  | succ n ih =>
    intro j b o5 hj hb54 heq
    have hj54 : j < 54 := by omega
    have hq : ev_ens[j]? = some ev_ens[j] := List.getElem?_eq_getElem (by rw [en_len]; exact hj54)
    generalize ev_ens[j]'(by rw [en_len]; exact hj54) = q at hq
    have ho := of_en hq
    have hk := en_ok q (List.mem_of_getElem? hq)
    have hes := ers_succ (s := s) hq
    have ec : (nI j).toNatClampNeg = j := ncl
    /- the row stays as it was -/
    have stay : (q.1 = s → ∀ (a : Row), eor b = some a → ¬ tx q.2.2.1 <:+ w ∨ ¬ a.1.length < (tx q.2.2.1).length) → (q.1 = s → b = none → ¬ tx q.2.2.1 <:+ w) → eor b = lg (ers s (j + 1)) w := fun g1 g2 => by
      rw [hes]
      by_cases cs' : q.1 = s
      · rw [if_pos cs']
        unfold lg at heq ⊢
        rw [List.foldl_append, ← heq]
        show _ = s1 w (eor b) (erow q)
        unfold s1
        by_cases cw : tx q.2.2.1 <:+ w
        · rw [if_pos cw]
          cases hbb : eor b with
          | none =>
            cases b with
            | none => exact absurd cw (g2 cs' rfl)
            | some i =>
              have hi := hb54 i rfl
              have : ev_ens[i]? = some ev_ens[i] := List.getElem?_eq_getElem (by rw [en_len]; exact hi)
              simp [this] at hbb
          | some a =>
            rcases g1 cs' a hbb with k | k
            · exact absurd cw k
            · simp only
              rw [if_neg k]
        · rw [if_neg cw]
      · rw [if_neg cs']
        exact heq
    have take : q.1 = s → tx q.2.2.1 <:+ w → (∀ a, eor b = some a → a.1.length < (tx q.2.2.1).length) → eor (some j) = lg (ers s (j + 1)) w := fun cs' cw g => by
      rw [hes, if_pos cs']
      unfold lg at heq ⊢
      rw [List.foldl_append, ← heq]
      show _ = s1 w (eor b) (erow q)
      unfold s1
      rw [if_pos cw]
      show (ev_ens[j]?).map erow = _
      rw [hq]
      cases hbb : eor b with
      | none => rfl
      | some a =>
        simp only
        rw [if_pos (g a hbb)]
        rfl
    have take54 : ∀ i, some j = some i → i < 54 := fun i hi => by
      rw [Option.some.injEq] at hi
      omega
    cases b with
    | none =>
      have nx : eor none = lg (ers s (j + 1)) w → ev_Br (d + 1) 53 68 [some (.ref L), some (.int s), some (.int z), some (.null), some (.int (nI j)), some (.ref (400 + j))] I A R := fun g => by
        refine t_O_changeEnding_68n hL _ _ _ _ ?_
        rw [nI_1]
        exact ih (j + 1) none _ (by omega) hb54 g
      refine t_O_changeEnding_5n hL _ _ _ _ q.1 q.2.2.1 (by rw [ec]; exact ho.2.1) (by rw [ec]; exact ho.2.2.2.1) ?_
      rw [ec]
      refine cf (nle (a := 54) hj54) ⟨vin hj54, fun c => c_ends (by omega) hL hb hk.1 hk.2.2.1 (fun cw => z1 ?_) (fun cw => z0 (nx (stay (fun _ a ha => absurd ha (by simp)) (fun _ _ => cw)))), fun c => nx (stay (fun k => absurd k c) (fun k => absurd k c))⟩
      refine t_O_changeEnding_65n hL _ _ _ _ (t_O_changeEnding_68r hL _ _ _ _ _ ?_)
      rw [nI_1]
      exact ih (j + 1) (some j) _ (by omega) take54 (take c cw (fun a ha => absurd ha (by simp)))
    | some i =>
      have hi := hb54 i rfl
      have hp : ev_ens[i]? = some ev_ens[i] := List.getElem?_eq_getElem (by rw [en_len]; exact hi)
      generalize ev_ens[i]'(by rw [en_len]; exact hi) = p at hp
      have hpo := of_en hp
      have hpk := en_ok p (List.mem_of_getElem? hp)
      have hpe : eor (some i) = some (erow p) := by
        show (ev_ens[i]?).map erow = _
        rw [hp]
        rfl
      have nx : eor (some i) = lg (ers s (j + 1)) w → ev_Br (d + 1) 53 68 [some (.ref L), some (.int s), some (.int z), some (.ref (400 + i)), some (.int (nI j)), some (.ref (400 + j))] I A R := fun g => by
        refine t_O_changeEnding_68r hL _ _ _ _ _ ?_
        rw [nI_1]
        exact ih (j + 1) (some i) _ (by omega) hb54 g
      refine t_O_changeEnding_5r hL _ _ _ _ _ p.2.1 p.2.2.1 p.2.2.1 p.2.2.2 q.1 q.2.2.1 q.2.2.1 p.2.2.1 hpo.2.2.1 hpo.2.2.2.1 hpk.1 hpo.2.2.2.1 hpo.2.2.2.2 (by rw [ec]; exact ho.2.1) (by rw [ec]; exact ho.2.2.2.1) (by rw [ec]; exact ho.2.2.2.1) hk.1 hpo.2.2.2.1 hpk.1 ?_
      rw [ec]
      have t1 := tx_len q.2.2.1
      have t2 := tx_len p.2.2.1
      refine cf (nle (a := 54) hj54) ⟨vin hj54, fun c => c_ends (by omega) hL hb hk.1 hk.2.2.1 (fun cw => z1 ⟨⟨by omega, by omega⟩, c_length (by omega) hk.1 (c_length (by omega) hpk.1 ?_)⟩) (fun cw => z0 (nx (stay (fun _ _ _ => .inl cw) (fun _ k => absurd k (by simp))))), fun c => nx (stay (fun k => absurd k c) (fun k => absurd k c))⟩
      by_cases cl : (tx p.2.2.1).length < (tx q.2.2.1).length
      · refine cf (nle cl) (t_O_changeEnding_65r hL _ _ _ _ _ (t_O_changeEnding_68r hL _ _ _ _ _ ?_))
        rw [nI_1]
        refine ih (j + 1) (some j) _ (by omega) take54 (take c cw (fun a ha => ?_))
        rw [hpe, Option.some.injEq] at ha
        rw [← ha]
        exact cl
      · refine ct (ule (by omega)) (nx (stay (fun _ a ha => .inr ?_) (fun _ k => absurd k (by simp))))
        rw [hpe, Option.some.injEq] at ha
        rw [← ha]
        exact cl
theorem sf_tail {s t : List Int32} (h : s <:+ w) (e : t = s ++ [101]) : w.take (w.length - s.length) ++ t = w ++ [101] := by
  rw [e, ← List.append_assoc, ← sf_eq h]
theorem c_mend (hd : 8 ≤ d) (hL : ev_isL L) (hb : bu I A L u) (hl' : u.length < 24) (h0 : 1 ≤ u.length) (hc : cbn z u u.length) (h : ∀ I' A', bu I' A' L (mnd u) → fr L I A I' A' → V I' A') : ev_Bv d 55 0 [some (.ref L), some (.int z), none, none] I A V := by
  obtain ⟨d, rfl⟩ : ∃ e, d = e + 1 := ⟨d - 1, by omega⟩
  have t14 : tx 14 = [97, 116] := by decide
  have t15 : tx 15 = [97, 116, 101] := by decide
  have t16 : tx 16 = [98, 108] := by decide
  have t17 : tx 17 = [98, 108, 101] := by decide
  have t18 : tx 18 = [105, 122] := by decide
  have t19 : tx 19 = [105, 122, 101] := by decide
  refine t_O_mend_0 hL _ (c_size hL hb ?_)
  refine c_changeEnd (by omega) hL hb (by omega) (by omega) (by rw [t14]; simp) (by rw [t14, t15]; simp; omega) (fun g I1 A1 b1 f1 => cf (by decide) ?_) (fun g1 => z0 ?_)
  · refine h _ _ ?_ f1
    rw [sf_tail g (by rw [t14, t15]; rfl)] at b1
    rw [t14] at g
    rw [mnd, if_pos (.inl g)]
    exact b1
  rw [t14] at g1
  refine c_changeEnd (by omega) hL hb (by omega) (by omega) (by rw [t16]; simp) (by rw [t16, t17]; simp; omega) (fun g I1 A1 b1 f1 => cf (by decide) ?_) (fun g2 => z0 ?_)
  · refine h _ _ ?_ f1
    rw [sf_tail g (by rw [t16, t17]; rfl)] at b1
    rw [t16] at g
    rw [mnd, if_pos (.inr (.inl g))]
    exact b1
  rw [t16] at g2
  refine c_changeEnd (by omega) hL hb (by omega) (by omega) (by rw [t18]; simp) (by rw [t18, t19]; simp; omega) (fun g I1 A1 b1 f1 => cf (by decide) ?_) (fun g3 => z0 ?_)
  · refine h _ _ ?_ f1
    rw [sf_tail g (by rw [t18, t19]; rfl)] at b1
    rw [t18] at g
    rw [mnd, if_pos (.inr (.inr g))]
    exact b1
  rw [t18] at g3
  have gg : ¬ ([97, 116] <:+ u ∨ [98, 108] <:+ u ∨ [105, 122] <:+ u) := by
    rintro (k | k | k)
    · exact g1 k
    · exact g2 k
    · exact g3 k
  have e1 : nI u.length - 1 = nI (u.length - 1) := nI_sub (b := 1) h0
  rw [e1]
  refine c_at hL hb (by omega) ?_
  have tail : ¬ (db u u.length ∧ u.getD (u.length - 1) 0 ≠ 108 ∧ u.getD (u.length - 1) 0 ≠ 115 ∧ u.getD (u.length - 1) 0 ≠ 122) → ev_Bv (d + 1) 55 84 [some (.ref L), some (.int z), some (.int (nI u.length)), some (.int (u.getD (u.length - 1) 0))] I A V := fun k => by
    have em : mnd u = if ms u u.length = 1 ∧ so u u.length then u ++ [101] else u := by rw [mnd, if_neg gg, if_neg k]
    refine t_O_mend_84 hL _ _ _ (c_measureOf (by omega) hc (by omega) ?_)
    have hm := ms_lt (w := u) (n := u.length)
    by_cases c1 : ms u u.length = 1
    · refine ct (by rw [c1]; rfl) (c_endsShort (by omega) hL hb (by omega) hc (fun q => cf (by decide) (c_add hL hb hl' (by decide) (fun I1 A1 b1 f1 => h _ _ ?_ f1))) (fun q => z0 (h _ _ ?_ fr.rf)))
      · rw [em, if_pos ⟨c1, q⟩]
        exact b1
      · rw [em, if_neg (fun m => q m.2)]
        exact hb
    · refine cf (neq (b := 1) c1) (h _ _ ?_ fr.rf)
      rw [em, if_neg (fun m => c1 m.1)]
      exact hb
  refine c_endsDouble (by omega) hL hb (by omega) hc (fun q => cf (by decide) ⟨fun k => tail (fun m => m.2.1 k), fun k1 => ⟨fun k => tail (fun m => m.2.2.1 k), fun k2 => ⟨fun k => tail (fun m => m.2.2.2 k), fun k3 => ?_⟩⟩⟩) (fun q => z0 (tail (fun m => q m.1)))
  refine c_shorten hL hb (by omega) (fun I1 A1 b1 f1 => h _ _ ?_ f1)
  rw [mnd, if_neg gg, if_pos ⟨q, k1, k2, k3⟩]
  exact b1
theorem c_changeY (hd : 2 ≤ d) (hL : ev_isL L) (hb : bu I A L w) (hc : cbn z w w.length) (h : ∀ I' A', bu I' A' L (pst 2 w) → fr L I A I' A' → V I' A') : ev_Bv d 56 0 [some (.ref L), some (.int z), none] I A V := by
  obtain ⟨d, rfl⟩ : ∃ e, d = e + 1 := ⟨d - 1, by omega⟩
  have hl' := hb.2.1
  have ep : pst 2 w = if w.getD (w.length - 1) 0 = 121 ∧ hv w (w.length - 1) then w.set (w.length - 1) 105 else w := by rw [pst, if_pos rfl]
  refine t_O_changeY_0 hL _ (c_size hL hb ?_)
  by_cases c : w.length = 0
  · have e1 : nI w.length - 1 < 0 := by rw [c]; decide
    refine c_at_neg hL e1 (cf (by decide) (h _ _ ?_ fr.rf))
    rw [ep, if_neg]
    · exact hb
    · intro k
      rw [getD_out (by omega)] at k
      exact absurd k.1 (by decide)
  · have e1 : nI w.length - 1 = nI (w.length - 1) := nI_sub (b := 1) (by omega)
    rw [e1]
    refine c_at hL hb (by omega) ⟨fun q => c_hasV (by omega) (fun i hi => hc i (by omega)) (by omega) (fun k => cf (by decide) (c_put hL hb (by omega) (by decide) (fun I1 A1 b1 f1 => h _ _ ?_ f1))) (fun k => z0 (h _ _ ?_ fr.rf)), fun q => h _ _ ?_ fr.rf⟩
    · rw [ep, if_pos ⟨q, k⟩]
      exact b1
    · rw [ep, if_neg (fun m => k m.2)]
      exact hb
    · rw [ep, if_neg (fun m => q m.1)]
      exact hb
theorem c_dropL (hd : 7 ≤ d) (hL : ev_isL L) (hb : bu I A L w) (hc : cbn z w w.length) (h : ∀ I' A', bu I' A' L (pst 7 w) → fr L I A I' A' → V I' A') : ev_Bv d 57 0 [some (.ref L), some (.int z)] I A V := by
  obtain ⟨d, rfl⟩ : ∃ e, d = e + 1 := ⟨d - 1, by omega⟩
  have hl' := hb.2.1
  have t13 : tx 13 = [108, 108] := by decide
  have ep : pst 7 w = if [108, 108] <:+ w ∧ 1 < ms w w.length then w.take (w.length - 1) else w := by rw [pst, if_neg (by decide), if_pos rfl]
  have hm := ms_lt (w := w) (n := w.length)
  refine t_O_dropL_0 hL _ (c_ends (by omega) hL hb (by omega) (by rw [t13]; simp) (fun g => cf (by decide) (c_size hL hb (c_measureOf (by omega) hc (by omega) ?_))) (fun g => z0 (h _ _ ?_ fr.rf)))
  · rw [t13] at g
    by_cases c : 1 < ms w w.length
    · refine cf (nle (b := 1) c) (c_size hL hb ?_)
      have e1 : nI w.length - 1 = nI (w.length - 1) := nI_sub (b := 1) (by omega)
      rw [e1]
      refine c_shorten hL hb (by omega) (fun I1 A1 b1 f1 => h _ _ ?_ f1)
      rw [ep, if_pos ⟨g, c⟩]
      exact b1
    · refine ct (ule (b := 1) (by omega)) (h _ _ ?_ fr.rf)
      rw [ep, if_neg (fun m => c m.2)]
      exact hb
  · rw [t13] at g
    rw [ep, if_neg (fun m => g m.1)]
    exact hb
theorem c_run_l (hd : 9 ≤ d) (hL : ev_isL L) {I0 A0 : Nat → Nat → Int32} {last : Nat} (hlast : last ≤ 7) (h : ∀ I' A', bu I' A' L (prs w (last + 1)) → fr L I0 A0 I' A' → V I' A') : ∀ n j I A o3 o4, j + n = last + 1 → bu I A L (prs w j) → fr L I0 A0 I A → ev_Bv d 46 11 [some (.ref L), some (.int (nI last)), some (.int (nI j)), o3, o4] I A V := by
  obtain ⟨d, rfl⟩ : ∃ e, d = e + 1 := ⟨d - 1, by omega⟩
  intro n
  induction n with
  | zero =>
    intro j I A o3 o4 hj hb hf
    have : j = last + 1 := by omega
    subst this
    exact t_O_run_11 hL _ _ _ _ (ct (ult (by omega)) (h _ _ hb hf))
  | succ n ih =>
    intro j I A o3 o4 hj hb hf
    generalize hw : prs w j = v at hb
    have hl' := hb.2.1
    have ep : prs w (j + 1) = pst j v := by rw [prs, hw]
    refine t_O_run_11 hL _ _ _ _ (cf (nlt (by omega)) (cf (nlt (b := j) (a := 7) (by omega)) (c_consonantsOf (by omega) hL hb (fun z hz => ?_))))
    have nx : ∀ I1 A1 o4, bu I1 A1 L (pst j v) → fr L I A I1 A1 → ev_Bv (d + 1) 46 83 [some (.ref L), some (.int (nI last)), some (.int (nI j)), some (.int z), o4] I1 A1 V := fun I1 A1 o4 b1 f1 => by
      refine t_O_run_83 hL _ _ _ _ ?_
      rw [nI_1]
      refine ih (j + 1) I1 A1 _ _ (by omega) ?_ (hf.tr f1)
      rw [ep]
      exact b1
    by_cases c2 : j = 2
    · subst c2
      exact ct rfl (c_changeY (by omega) hL hb hz (fun I1 A1 b1 f1 => nx _ _ _ b1 f1))
    refine cf (neq (b := 2) c2) ?_
    by_cases c7 : j = 7
    · subst c7
      exact ct rfl (c_dropL (by omega) hL hb hz (fun I1 A1 b1 f1 => nx _ _ _ b1 f1))
    refine cf (neq (b := 7) c7) ?_
    have epj : pst j v = match lg (ers (nI j) 54) v with
      | none => v
      | some r => ptl v r := by rw [pst, if_neg c2, if_neg c7]
    obtain ⟨e', rfl⟩ : ∃ e, d = e + 1 := ⟨d - 1, by omega⟩
    have hno : lg (ers (nI j) 54) v = none → bu I A L (pst j v) := fun g => by
      rw [epj, g]
      exact hb
    refine t_O_changeEnding_0 hL _ _ (c_ce_l (d := e' + 1) (by omega) hL hb (fun g => ⟨fun _ => nx _ _ _ (hno g) fr.rf, fun y hy => absurd hy (by simp)⟩) (fun i q hq g => ?_) 54 0 none none (by omega) (by simp) rfl)
    · rw [Nat.add_sub_cancel]
      have hk := en_ok q (List.mem_of_getElem? hq)
      have ho := of_en hq
      have hed := en_ed ⟨i, ho.1⟩
      have hgq : ev_ens.getD i (0, 0, 0, 0) = q := by
        rw [List.getD_eq_getElem?_getD, hq]
        rfl
      simp only [hgq] at hed
      have hsf : tx q.2.2.1 <:+ v := by
        have : ∀ (R : List Row) (acc : Option Row), (∀ a, acc = some a → a.1 <:+ v) → ∀ a, R.foldl (s1 v) acc = some a → a.1 <:+ v := by
          intro R
          induction R with
          | nil => intro acc ha a e; exact ha a e
          | cons r R ihR =>
            intro acc ha a e
            refine ihR _ (fun b hb => ?_) a e
            unfold s1 at hb
            split at hb
            · rename_i hr
              split at hb
              · rw [Option.some.injEq] at hb
                rw [← hb]
                exact hr
              · rename_i a'
                split at hb
                · rw [Option.some.injEq] at hb
                  rw [← hb]
                  exact hr
                · rw [Option.some.injEq] at hb
                  rw [← hb]
                  exact ha _ rfl
            · exact ha b hb
        exact this _ none (by simp) _ g
      have hle := hsf.length_le
      have hpos : 0 < (tx q.2.2.1).length := List.length_pos_iff.mpr hk.2.2.1
      have ept : pst j v = ptl v (erow q) := by rw [epj, g]
      rw [nI_sub hle]
      refine c_holds (by omega) hL hb (by omega) (fun k hk => hz k (by omega)) hk.2.2.2.2 (fun hh => z1 ?_) (fun hh => z0 ⟨fun _ => nx _ _ _ ?_ fr.rf, fun y hy => absurd hy (by simp)⟩)
      · refine c_changeEnd (by omega) hL hb hk.1 hk.2.1 hk.2.2.1 (by omega) (fun _ I1 A1 b1 f1 => ⟨fun k => absurd k (by simp), fun y hy => ?_⟩) (fun k => absurd hsf k)
        rw [Option.some.injEq] at hy
        subst hy
        have mendcase : (i = 5 ∨ i = 6) → ev_Bv (e' + 1 + 1) 46 78 [some (.ref L), some (.int (nI last)), some (.int (nI j)), some (.int z), some (.ref (400 + i))] I1 A1 V := fun ci => by
          obtain ⟨e1, e2⟩ := hed.2.2 ci
          have hhv : hv v (v.length - (tx q.2.2.1).length) := by
            rw [e2] at hh
            rcases hh with m | ⟨m, _⟩ | ⟨m, _⟩ | ⟨_, m⟩ | ⟨m, _⟩ | ⟨m, _⟩
            · exact absurd m (by decide)
            · exact absurd m (by decide)
            · exact absurd m (by decide)
            · exact m
            · exact absurd m (by decide)
            · exact absurd m (by decide)
          rw [e1, List.append_nil] at b1
          have hul : (v.take (v.length - (tx q.2.2.1).length)).length = v.length - (tx q.2.2.1).length := by rw [List.length_take]; omega
          obtain ⟨k0, hk0, _⟩ := hhv
          refine t_O_run_78r hL _ _ _ _ (c_mend (u := v.take (v.length - (tx q.2.2.1).length)) (by omega) hL b1 (by omega) (by omega) (fun k hk => ?_) (fun I2 A2 b2 f2 => nx _ _ _ ?_ (f1.tr f2)))
          · rw [hul] at hk
            rw [hz k (by omega), cs_take hk]
          · rw [ept, ptl, if_pos hh, if_pos]
            · show bu I2 A2 L (mnd (v.take (v.length - (tx q.2.2.1).length) ++ tx q.2.2.2))
              rw [e1, List.append_nil]
              exact b2
            · rcases ci with ci | ci
              · exact .inl (hed.1.mpr ci)
              · exact .inr (hed.2.1.mpr ci)
        refine ⟨⟨by omega, by omega⟩, fun c5 => mendcase (.inl (by omega)), fun c5 => ⟨⟨by omega, by omega⟩, fun c6 => mendcase (.inr (by omega)), fun c6 => nx _ _ _ ?_ f1⟩⟩
        rw [ept, ptl, if_pos hh, if_neg]
        · exact b1
        · rintro (k | k)
          · have := hed.1.mp k
            omega
          · have := hed.2.1.mp k
            omega
      · rw [ept, ptl, if_neg hh]
        exact hb
/-- Porter's steps in the class -/
theorem c_run (hd : 9 ≤ d) (hL : ev_isL L) (hb : bu I A L w) {last : Nat} (hlast : last ≤ 7) (h : ∀ I' A', bu I' A' L (por last w) → fr L I A I' A' → V I' A') : ev_Bv d 46 0 [some (.ref L), some (.int (nI last)), none, none, none] I A V := by
  obtain ⟨e, rfl⟩ : ∃ e, d = e + 1 := ⟨d - 1, by omega⟩
  have hl' := hb.2.1
  refine t_O_run_0 hL _ (c_size hL hb ?_)
  by_cases c : 2 < w.length
  · rw [por, if_pos c] at h
    exact ct (ult (a := 2) c) (c_run_l hd hL hlast h (last + 1) 0 I A none none (by omega) hb fr.rf)
  · rw [por, if_neg c] at h
    exact cf (nlt (b := w.length) (a := 2) (by omega)) (h _ _ hb fr.rf)
end CTR

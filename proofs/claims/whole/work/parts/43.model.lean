/-! THE REFERENCE: its words and its buffer -/
def rb (I A : Nat → Nat → Int32) (w : List Int32) : Prop := I 1033 21 = nI w.length ∧ w.length ≤ 80 ∧ ∀ j, j < w.length → A 1048 j = w.getD j 0
abbrev fq (I A I' A' : Nat → Nat → Int32) : Prop := fx [(1033, 21)] [1048] I A I' A'
theorem rb.fx {S : List (Nat × Nat)} {T : List Nat} {I A I' A' : Nat → Nat → Int32} {w : List Int32} (h : rb I A w) (g : fx S T I A I' A') (hS : (1033, 21) ∉ S) (hT : 1048 ∉ T) : rb I' A' w :=
  ⟨(g.1 _ _ hS).trans h.1, h.2.1, fun j hj => (g.2 _ j hT).trans (h.2.2 j hj)⟩
theorem mw.fq {I A I' A' : Nat → Nat → Int32} {ws : List (List Int32)} (h : mw I A ws) (g : fq I A I' A') : mw I' A' ws := h.fx g (by simp) (by simp) (by simp)
theorem take_snoc {u : List Int32} {j : Nat} (h : j < u.length) : u.take (j + 1) = u.take j ++ [u.getD j 0] := by
  rw [List.take_add_one, List.getD_eq_getElem?_getD, List.getElem?_eq_getElem h]
  rfl
section CTR
variable {d : Nat} {I A : Nat → Nat → Int32} {K : Int32 → (Nat → Nat → Int32) → (Nat → Nat → Int32) → Prop} {V : (Nat → Nat → Int32) → (Nat → Nat → Int32) → Prop} {u w : List Int32} {ws : List (List Int32)} {i : Nat}
theorem c_beyond {x a b : Int32} (h1 : (x < a ∨ b < x) → K 1 I A) (h0 : ¬ (x < a ∨ b < x) → K 0 I A) : ev_Bi d 120 0 [some (.int x), some (.int a), some (.int b)] I A K :=
  t_M_beyond_0 _ _ _ ⟨fun c => h1 (.inl c), fun c => ⟨fun g => h0 (fun k => by rcases k with k | k; exact c k; exact absurd g (Int32.not_le.mpr k)), fun g => h1 (.inr (Int32.not_le.mp g))⟩⟩
/-- below 0 or above n - 1 -/
theorem beyond0 {x : Int32} {n : Nat} (hn : n < 1000000) : (x < 0 ∨ nI n - 1 < x) ↔ ¬ ∃ j, j < n ∧ x = nI j := by
  rcases int_cases x with hx | ⟨j, hj, rfl⟩
  · refine ⟨fun _ => ?_, fun _ => .inl hx⟩
    rintro ⟨j, hj, rfl⟩
    exact npo (by omega) hx
  · obtain _ | n := n
    · have h1 : nI 0 - 1 < nI j := by
        have e1 : nI 0 - 1 = -1 := by decide
        rw [e1, Int32.lt_iff_toInt_lt, nI_toInt hj]
        have e2 : (-1 : Int32).toInt = -1 := by decide
        omega
      exact ⟨fun _ ⟨k, hk, _⟩ => absurd hk (by omega), fun _ => .inr h1⟩
    · rw [nI_pred]
      constructor
      · rintro (c | c)
        · exact absurd c (npo hj)
        · rintro ⟨k, hk, e⟩
          rw [nI_eq hj (by omega)] at e
          rw [nI_ltI (by omega) hj] at c
          omega
      · intro c
        right
        rw [nI_ltI (by omega) hj]
        rcases Nat.lt_or_ge n j with g | g
        · exact g
        · exact absurd ⟨j, by omega, rfl⟩ c
theorem c_strange (hd : 1 ≤ d) (hw : mw I A ws) (ho : ok ws) {x : Int32} (h1 : ¬ kn ws x → K 1 I A) (h0 : kn ws x → K 0 I A) : ev_Bi d 121 0 [some (.ref 1033), some (.int x)] I A K := by
  obtain ⟨e, rfl⟩ : ∃ e, d = e + 1 := ⟨d - 1, by omega⟩
  have hk := ho.1
  refine t_M_strange_0 _ (c_beyond (fun c => ⟨by decide, h1 ?_⟩) (fun c => ⟨by decide, h0 ?_⟩))
  · rw [hw.1, beyond0 (by omega)] at c
    rintro ⟨j, v, rfl, hj⟩
    exact c ⟨j, (ho.at hj).2.1, rfl⟩
  · rw [hw.1, beyond0 (by omega), Classical.not_not] at c
    obtain ⟨j, hj, rfl⟩ := c
    exact kn_lt hj
theorem c_show_l (ho : w.length ≤ 64) {I0 A0 : Nat → Nat → Int32} (hr : rb I0 A0 w) (h : ∀ A', (∀ j, j < w.length → A' 1035 j = w.getD j 0) → fx [] [1035] I0 A0 I0 A' → K (nI w.length) (ev_upd I0 1033 3 (nI w.length)) A') : ∀ n j A, j + n = w.length → (∀ k, k < j → A 1035 k = w.getD k 0) → fx [] [1035] I0 A0 I0 A → ev_Bi d 126 2 [some (.ref 1033), some (.int (nI j))] I0 A K := by
  intro n
  induction n with
  | zero =>
    intro j A hj hh hf
    refine t_M_show_2 _ ?_
    rw [hr.1]
    exact ct (ule (by omega)) (h _ (fun k hk => hh k (by omega)) hf)
  | succ n ih =>
    intro j A hj hh hf
    refine t_M_show_2 _ ?_
    rw [hr.1]
    refine cf (nle (by omega)) ⟨vin (by omega), vin (by omega), ?_⟩
    rw [nI_1, ncl]
    refine ih (j + 1) _ (by omega) (fun k hk => ?_) (hf.tr (fx.au (by simp)))
    rw [ev_upd_at]
    by_cases c : k = j
    · rw [if_pos c, c, hf.2 _ _ (by simp), hr.2.2 j (by omega)]
    · rw [if_neg c, hh k (by omega)]
/-- show: OUT holds the buffer -/
theorem c_show (ho : w.length ≤ 64) (hr : rb I A w) (h : ∀ I' A', I' 1033 3 = nI w.length → (∀ j, j < w.length → A' 1035 j = w.getD j 0) → fx [(1033, 3)] [1035] I A I' A' → K (nI w.length) I' A') : ev_Bi d 126 0 [some (.ref 1033), none] I A K := by
  refine t_M_show_0 (c_show_l ho hr (fun A' h1 h2 => ?_) w.length 0 A (by omega) (fun k hk => absurd hk (by omega)) fx.rf)
  exact h _ _ ev_upd_eq h1 (fx.tr (h2.sub (by simp) (by simp)) (fx.iu (by simp)))
theorem c_take_l (ho : ok ws) (hi : ws[i]? = some w) {I0 A0 : Nat → Nat → Int32} (hw : mw I0 A0 ws) (h : ∀ I' A', rb I' A' w → fq I0 A0 I' A' → V I' A') : ∀ n j I A, j + n = w.length → I 1033 21 = nI w.length → (∀ k, k < j → A 1048 k = w.getD k 0) → fq I0 A0 I A → ev_Bv d 127 12 [some (.ref 1033), some (.int (nI i)), some (.int (nI j))] I A V := by
  have hk := ho.at hi
  intro n
  induction n with
  | zero =>
    intro j I A hj hn hh hf
    refine t_M_take_12 _ _ ?_
    rw [hn]
    exact ct (ule (by omega)) (h _ _ ⟨hn, by omega, fun k hk => hh k (by omega)⟩ hf)
  | succ n ih =>
    intro j I A hj hn hh hf
    refine t_M_take_12 _ _ ?_
    have e24 : 24 * nI i = nI (24 * i) := nI_mul 24 i
    rw [hn, e24, nI_add, nI_1]
    refine cf (nle (by omega)) ⟨vin (by omega), vin (by omega), ?_⟩
    rw [ncl, ncl]
    refine ih (j + 1) I _ (by omega) hn (fun k hk => ?_) (hf.tr (fx.au (by simp)))
    rw [ev_upd_at]
    by_cases c : k = j
    · rw [if_pos c, c, hf.2 _ _ (by simp), (hw.2 i w hi).2 j (by omega)]
    · rw [if_neg c, hh k (by omega)]
theorem c_take (ho : ok ws) (hi : ws[i]? = some w) (hw : mw I A ws) (h : ∀ I' A', rb I' A' w → fq I A I' A' → V I' A') : ev_Bv d 127 0 [some (.ref 1033), some (.int (nI i)), none] I A V := by
  have hk := ho.at hi
  refine t_M_take_0 _ ⟨vin (by omega), ?_⟩
  rw [ncl, (hw.2 i w hi).1]
  exact c_take_l ho hi hw h w.length 0 _ _ (by omega) ev_upd_eq (fun k hk => absurd hk (by omega)) (fx.iu (by simp))
theorem c_findM_l (ho : ok ws) (hw : mw I A ws) (hr : rb I A w) {f n : Nat} (hf : f + n ≤ w.length) (h1 : ∀ i, fi ws ((w.drop f).take n) = some i → K (nI i) I A) (h0 : fi ws ((w.drop f).take n) = none → K (-1) I A) : ∀ m j o4 o5, j + m = ws.length → (∀ k, k < j → ws[k]? ≠ some ((w.drop f).take n)) → ev_Bi d 128 2 [some (.ref 1033), some (.int (nI f)), some (.int (nI n)), some (.int (nI j)), o4, o5] I A K := by
  have hk := ho.1
  have h2 := hr.2.1
  intro m
  induction m with
  | zero =>
    intro j o4 o5 hj hh
    refine t_M_find_2 _ _ _ _ _ ?_
    rw [hw.1]
    exact ct (ule (by omega)) (h0 (fi_none (fun k hk => hh k (by omega))))
  | succ m ih =>
    intro j o4 o5 hj hh
    have hjl : j < ws.length := by omega
    have hg : ws[j]? = some ws[j] := List.getElem?_eq_getElem hjl
    have hoj := ho.at hg
    have next : ws[j]? ≠ some ((w.drop f).take n) → ∀ x5, ev_Bi d 128 78 [some (.ref 1033), some (.int (nI f)), some (.int (nI n)), some (.int (nI j)), some (.int 0), some (.int x5)] I A K := fun c x5 => by
      refine t_M_find_78 _ _ _ _ _ (z0 ?_)
      rw [nI_1]
      refine ih (j + 1) _ _ (by omega) (fun k hk => ?_)
      by_cases ce : k = j
      · rw [ce]
        exact c
      · exact hh k (by omega)
    refine t_M_find_2 _ _ _ _ _ ?_
    rw [hw.1]
    refine cf (nle (by omega)) ⟨vin (by omega), ?_⟩
    rw [ncl, (hw.2 j _ hg).1]
    by_cases cl : ws[j].length = n
    · refine ct (by rw [cl]) ?_
      have inner : ∀ r k, k + r = n → (∀ q, q < k → ws[j].getD q 0 = w.getD (f + q) 0) → ev_Bi d 128 30 [some (.ref 1033), some (.int (nI f)), some (.int (nI n)), some (.int (nI j)), some (.int 1), some (.int (nI k))] I A K := by
        intro r
        induction r with
        | zero =>
          intro k hk hq
          refine t_M_find_30 _ _ _ _ _ (z1 (ct (ule (by omega)) (t_M_find_78 _ _ _ _ _ (z1 (h1 j (fi_some ?_ hh))))))
          rw [hg, Option.some.injEq]
          refine lext (by simp; omega) (fun q hq' => ?_)
          rw [getD_take (by omega), getD_drop, hq q (by omega)]
        | succ r ihr =>
          intro k hk hq
          have e24 : 24 * nI j = nI (24 * j) := nI_mul 24 j
          refine t_M_find_30 _ _ _ _ _ (z1 (cf (nle (by omega)) ?_))
          rw [e24, nI_add, nI_add, nI_1, ncl, ncl, (hw.2 j _ hg).2 k (by omega), hr.2.2 _ (by omega)]
          refine ⟨vin (by omega), vin (by omega), fun c => ihr (k + 1) (by omega) (fun q hq' => ?_), fun c => t_M_find_30 _ _ _ _ _ (z0 (next (fun g => c ?_) _))⟩
          · by_cases ce : q = k
            · rw [ce]
              exact c
            · exact hq q (by omega)
          · rw [hg, Option.some.injEq] at g
            rw [g, getD_take (by omega), getD_drop]
      exact inner n 0 (by omega) (fun q hq => absurd hq (by omega))
    · refine cf (neq cl) (t_M_find_30 _ _ _ _ _ (z0 (next (fun c => cl ?_) _)))
      rw [hg, Option.some.injEq] at c
      rw [c, List.length_take, List.length_drop]
      omega
theorem c_findM (ho : ok ws) (hw : mw I A ws) (hr : rb I A w) {f n : Nat} (hf : f + n ≤ w.length) (h1 : ∀ i, fi ws ((w.drop f).take n) = some i → K (nI i) I A) (h0 : fi ws ((w.drop f).take n) = none → K (-1) I A) : ev_Bi d 128 0 [some (.ref 1033), some (.int (nI f)), some (.int (nI n)), none, none, none] I A K :=
  t_M_find_0 _ _ (c_findM_l ho hw hr hf h1 h0 ws.length 0 none none (by omega) (fun k hk => absurd hk (by omega)))
theorem c_findM0 (ho : ok ws) (hw : mw I A ws) (hr : rb I A w) (h1 : ∀ i, fi ws w = some i → K (nI i) I A) (h0 : fi ws w = none → K (-1) I A) : ev_Bi d 128 0 [some (.ref 1033), some (.int 0), some (.int (nI w.length)), none, none, none] I A K := by
  refine c_findM (f := 0) ho hw hr (by omega) ?_ ?_
  · rw [List.drop_zero, List.take_length]
    exact h1
  · rw [List.drop_zero, List.take_length]
    exact h0
theorem c_learnM_l (ho : ok ws) (hu : u.length ≤ 24) (hn : ws.length < 150) {I0 A0 : Nat → Nat → Int32} (hw0 : mw I0 A0 ws) (hr : rb I0 A0 u) (h : ∀ I' A', mw I' A' (ws ++ [u]) → fx [(1033, 6)] [1036, 1037, 1038, 1039] I0 A0 I' A' → (∀ j, A' 1039 j = if j = ws.length then -5 else A0 1039 j) → (∀ j, A' 1038 j = if j = ws.length then 0 else A0 1038 j) → K (nI ws.length) I' A') {x1 : Int32} : ∀ n j A, j + n = u.length → fx [(1033, 6)] [1036] I0 A0 I0 A → (∀ k, k < 24 * ws.length → A 1036 k = A0 1036 k) → (∀ k, k < j → A 1036 (24 * ws.length + k) = u.getD k 0) → ev_Bi (d + 1) 129 26 [some (.ref 1033), some (.int x1), some (.int (nI j))] I0 A K := by
  intro n
  induction n with
  | zero =>
    intro j A hj hf h4 h4'
    refine t_M_learn_26 _ _ ?_
    rw [hr.1, hw0.1]
    refine ct (ule (by omega)) ⟨vin (by omega), vin (by omega), vin (by omega), ?_⟩
    rw [ncl, nI_1]
    refine h _ _ ⟨?_, fun i w hi => ?_⟩ ?_ (fun j => ?_) (fun j => ?_)
    · rw [ev_upd_eq]
      simp
    · rw [ev_upd_ne (by decide), ev_upd_ne (by decide), ev_upd_at]
      rcases snoc_get hi with ⟨c, g⟩ | ⟨rfl, rfl⟩
      · rw [if_neg (by omega)]
        refine ⟨(hf.2 _ _ (by simp)).trans (hw0.2 i w g).1, fun j hj => ?_⟩
        have := ho.at g
        rw [ev_upd_ne (by decide), ev_upd_ne (by decide), ev_upd_ne (by decide), h4 _ (by omega), (hw0.2 i w g).2 j hj]
      · refine ⟨if_pos rfl, fun j' hj' => ?_⟩
        rw [ev_upd_ne (by decide), ev_upd_ne (by decide), ev_upd_ne (by decide), h4' _ (by omega)]
    · exact fx.tr (fx.tr (fx.tr (fx.tr (hf.sub (by simp) (by simp)) (fx.au (by simp))) (fx.au (by simp))) (fx.au (by simp))) (fx.iu (by simp))
    · rw [ev_upd_at]
      by_cases c : j = ws.length
      · rw [if_pos c, if_pos c]
      · rw [if_neg c, if_neg c, ev_upd_ne (by decide), ev_upd_ne (by decide), hf.2 _ _ (by simp)]
    · rw [ev_upd_ne (by decide), ev_upd_at]
      by_cases c : j = ws.length
      · rw [if_pos c, if_pos c]
      · rw [if_neg c, if_neg c, ev_upd_ne (by decide), hf.2 _ _ (by simp)]
  | succ n ih =>
    intro j A hj hf h4 h4'
    refine t_M_learn_26 _ _ ?_
    have e24 : 24 * nI ws.length = nI (24 * ws.length) := nI_mul 24 _
    rw [hr.1, hw0.1, e24, nI_add, nI_1 j]
    refine cf (nle (by omega)) ⟨vin (by omega), vin (by omega), ?_⟩
    rw [ncl, ncl]
    refine ih (j + 1) _ (by omega) (hf.tr (fx.au (x := 1036) (by simp))) (fun k hk => ?_) (fun k hk => ?_)
    · rw [ev_upd_nk (by omega), h4 k hk]
    · rw [ev_upd_at]
      by_cases c : k = j
      · rw [if_pos (by omega), c, hf.2 _ _ (by simp), hr.2.2 j (by omega)]
      · rw [if_neg (by omega), h4' k (by omega)]
theorem c_learnM (hd : 1 ≤ d) (ho : ok ws) (hw : mw I A ws) (hr : rb I A u) (hu : u.length ≤ 24) (h1 : ∀ i, fi ws u = some i → K (nI i) I A) (h2 : fi ws u = none → 150 ≤ ws.length → K (-1) I A) (h3 : fi ws u = none → ws.length < 150 → ∀ I' A', mw I' A' (ws ++ [u]) → fx [(1033, 6)] [1036, 1037, 1038, 1039] I A I' A' → (∀ j, A' 1039 j = if j = ws.length then -5 else A 1039 j) → (∀ j, A' 1038 j = if j = ws.length then 0 else A 1038 j) → K (nI ws.length) I' A') : ev_Bi d 129 0 [some (.ref 1033), none, none] I A K := by
  obtain ⟨e, rfl⟩ : ∃ e, d = e + 1 := ⟨d - 1, by omega⟩
  have hk := ho.1
  refine t_M_learn_0 ?_
  rw [hr.1]
  refine c_findM0 ho hw hr (fun i hi => ct ?_ (h1 i hi)) (fun hi => cf (by decide) ?_)
  · have := ho.at (fi_get hi)
    exact nge
  rw [hw.1]
  by_cases c : ws.length < 150
  · exact cf (nle (a := 150) c) (c_learnM_l ho hu c hw hr (h3 hi c) u.length 0 A (by omega) fx.rf (fun _ _ => rfl) (fun k hk => absurd hk (by omega)))
  · exact ct (ule (a := 150) (by omega)) (h2 hi (by omega))
end CTR

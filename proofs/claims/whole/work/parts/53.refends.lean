/-! PORTER: the reference's letters, endings and measures -/
def ln : Nat → Int64 → Nat
  | 0, _ => 0
  | f + 1, e => if lg_cmp e 0 = 0 then 0 else ln f (e >>> (Int32.toInt64 5 &&& 63)) + 1
def lnok : Nat → Int64 → Bool
  | 0, e => decide (lg_cmp e 0 = 0)
  | f + 1, e => decide (lg_cmp e 0 = 0) || lnok f (e >>> (Int32.toInt64 5 &&& 63))
def dl (e : Int64) : List Int32 := (List.range (ln 13 e)).map (fun k => 96 + Int64.toInt32 ((e >>> (Int32.toInt64 (5 * nI k) &&& 63)) &&& 31))
abbrev de (e : Int64) (s : List Int32) : Prop := lnok 13 e = true ∧ dl e = s
theorem dl_get {e : Int64} {s : List Int32} {k : Nat} (he : de e s) (hk : k < s.length) : 96 + Int64.toInt32 ((e >>> (Int32.toInt64 (5 * nI k) &&& 63)) &&& 31) = s.getD k 0 := by
  obtain ⟨_, rfl⟩ := he
  have hk' : k < ln 13 e := by simpa [dl] using hk
  rw [List.getD_eq_getElem?_getD, dl, List.getElem?_map, List.getElem?_range hk']
  rfl
theorem rb_cut {I A : Nat → Nat → Int32} {w : List Int32} {m : Nat} (h : rb I A w) (hm : m ≤ w.length) : rb (ev_upd I 1033 21 (nI m)) A (w.take m) := by
  have h2 := h.2.1
  refine ⟨?_, ?_, fun j hj => ?_⟩
  · rw [ev_upd_eq, List.length_take, Nat.min_eq_left hm]
  · rw [List.length_take]
    omega
  · rw [List.length_take] at hj
    rw [getD_take (by omega)]
    exact h.2.2 j (by omega)
theorem rb_same {I A : Nat → Nat → Int32} {w : List Int32} (h : rb I A w) : rb (ev_upd I 1033 21 (nI w.length)) A w := by
  have := rb_cut h (m := w.length) (by omega)
  rw [List.take_length] at this
  exact this
theorem rb_set {I A : Nat → Nat → Int32} {w : List Int32} {k : Nat} {c : Int32} (h : rb I A w) (hk : k < w.length) : rb I (ev_upd A 1048 k c) (w.set k c) := by
  refine ⟨?_, ?_, fun j hj => ?_⟩
  · rw [List.length_set]
    exact h.1
  · rw [List.length_set]
    exact h.2.1
  · rw [List.length_set] at hj
    rw [getD_set hj, ev_upd_at]
    by_cases c' : j = k
    · rw [if_pos c', if_pos c']
    · rw [if_neg c', if_neg c']
      exact h.2.2 j hj
theorem rb_add {I A : Nat → Nat → Int32} {w : List Int32} {c : Int32} (h : rb I A w) (hl : w.length < 80) : rb (ev_upd I 1033 21 (nI (w.length + 1))) (ev_upd A 1048 w.length c) (w ++ [c]) := by
  refine ⟨?_, ?_, fun j hj => ?_⟩
  · rw [ev_upd_eq]
    simp
  · simp
    omega
  · simp at hj
    rw [ev_upd_at, getD_app]
    by_cases c' : j = w.length
    · rw [if_pos c', if_neg (by omega), c', Nat.sub_self]
      rfl
    · rw [if_neg c', if_pos (by omega)]
      exact h.2.2 j (by omega)
abbrev bz (b : Bool) : Int32 := if b = true then 1 else 0
section CTR
variable {d : Nat} {I A : Nat → Nat → Int32} {K : Int32 → (Nat → Nat → Int32) → (Nat → Nat → Int32) → Prop} {V : (Nat → Nat → Int32) → (Nat → Nat → Int32) → Prop} {n i f : Nat} {u w s : List Int32} {e : Int64}
theorem c_lettersOf_l {x0 : Int64} : ∀ f e j, lnok f e = true → K (nI (j + ln f e)) I A → ev_Bi d 136 4 [some (.long x0), none, some (.int (nI j)), some (.long e), none] I A K := by
  intro f
  induction f with
  | zero =>
    intro e j h1 h
    have c : lg_cmp e 0 = 0 := by simpa [lnok] using h1
    exact t_M_lettersOf_4 _ _ _ (ct c h)
  | succ f ih =>
    intro e j h1 h
    refine t_M_lettersOf_4 _ _ _ ?_
    by_cases c : lg_cmp e 0 = 0
    · refine ct c ?_
      rw [ln, if_pos c] at h
      exact h
    · refine cf c ?_
      rw [nI_1]
      refine ih _ (j + 1) ?_ ?_
      · simpa [lnok, c] using h1
      · rw [ln, if_neg c] at h
        rw [Nat.add_assoc, Nat.add_comm 1]
        exact h
theorem c_lettersOf (he : de e s) (h : K (nI s.length) I A) : ev_Bi d 136 0 [some (.long e), none, none, none, none] I A K := by
  refine t_M_lettersOf_0 _ (c_lettersOf_l 13 e 0 he.1 ?_)
  have : 0 + ln 13 e = s.length := by
    rw [← he.2]
    simp [dl]
  rw [this]
  exact h
theorem c_letterOf (he : de e s) {k : Nat} (hk : k < s.length) (h : K (s.getD k 0) I A) : ev_Bi d 137 0 [some (.long e), none, some (.int (nI k))] I A K := by
  refine t_M_letterOf_0 _ _ ?_
  rw [dl_get he hk]
  exact h
theorem c_standsM (hd : 1 ≤ d) (he : de e s) (hs : s ≠ []) (hr : rb I A w) (hf : f ≤ 100) (hs8 : s.length ≤ 13) (h1 : sa w f s → K 1 I A) (h0 : ¬ sa w f s → K 0 I A) : ev_Bi d 172 0 [some (.ref 1033), some (.int (nI f)), some (.long e), none, none, none, none] I A K := by
  obtain ⟨d, rfl⟩ : ∃ e, d = e + 1 := ⟨d - 1, by omega⟩
  have hl := hr.2.1
  refine t_M_stands_0 _ _ (c_lettersOf he ?_)
  rw [hr.1, nI_add]
  by_cases c : w.length < f + s.length
  · exact ct (ult c) (t_M_stands_27 _ _ _ _ _ (z0 ⟨by decide, h0 (sa_len hs c)⟩))
  refine cf (nlt (by omega)) ?_
  have loop : ∀ n j, j + n = s.length → (∀ k, k < j → w.getD (f + k) 0 = s.getD k 0) → ev_Bi (d + 1) 172 27 [some (.ref 1033), some (.int (nI f)), some (.long e), none, some (.int (nI s.length)), some (.int 1), some (.int (nI j))] I A K := by
    intro n
    induction n with
    | zero =>
      intro j hj hh
      exact t_M_stands_27 _ _ _ _ _ (z1 (ct (ule (by omega)) ⟨by decide, h1 ((sa_iff hs).mpr ⟨by omega, fun k hk => hh k (by omega)⟩)⟩))
    | succ n ih =>
      intro j hj hh
      refine t_M_stands_27 _ _ _ _ _ (z1 (cf (nle (by omega)) ?_))
      rw [nI_add, ncl, hr.2.2 _ (by omega), nI_1]
      refine ⟨vin (by omega), c_letterOf he (by omega) ⟨fun q => ih (j + 1) (by omega) (fun k hk => ?_), fun q => t_M_stands_27 _ _ _ _ _ (z0 ⟨by decide, h0 (sa_not hs (j := j) (by omega) q)⟩)⟩⟩
      by_cases ce : k = j
      · rw [ce]
        exact q
      · exact hh k (by omega)
  exact loop s.length 0 (by omega) (fun k hk => absurd hk (by omega))
theorem c_endsM (hd : 2 ≤ d) (he : de e s) (hs : s ≠ []) (hs8 : s.length ≤ 13) (hr : rb I A w) (h1 : s <:+ w → K 1 I A) (h0 : ¬ s <:+ w → K 0 I A) : ev_Bi d 138 0 [some (.ref 1033), some (.long e), none, none] I A K := by
  obtain ⟨d, rfl⟩ : ∃ e, d = e + 1 := ⟨d - 1, by omega⟩
  have hl := hr.2.1
  refine t_M_ends_0 _ (c_lettersOf he ?_)
  rw [hr.1]
  by_cases c : w.length < s.length
  · exact ct (ult c) (h0 (fun q => absurd q.length_le (by omega)))
  · rw [nI_sub (by omega)]
    exact cf (nlt (by omega)) (c_standsM (by omega) he hs hr (by omega) hs8 (fun q => z1 (h1 (sf_iff.mpr ⟨by omega, q⟩))) (fun q => z0 (h0 (fun q' => q (sf_iff.mp q').2))))
theorem c_turn_l (hd : 1 ≤ d) {I0 A0 : Nat → Nat → Int32} {go : Int32} (he : de e s) (hl : u.length + s.length ≤ 80) (h : ∀ I' A', rb I' A' (u ++ s) → fq I0 A0 I' A' → V I' A') : ∀ n j I A, j + n = s.length → rb I A (u ++ s.take j) → fq I0 A0 I A → ev_Bv d 139 19 [some (.ref 1033), some (.int go), some (.long e), none, some (.int (nI s.length)), some (.int (nI j))] I A V := by
  obtain ⟨d, rfl⟩ : ∃ e, d = e + 1 := ⟨d - 1, by omega⟩
  intro n
  induction n with
  | zero =>
    intro j I A hj hr hf
    have : j = s.length := by omega
    subst this
    rw [List.take_length] at hr
    exact t_M_turn_19 _ _ _ _ (ct (ule (by omega)) (h _ _ hr hf))
  | succ n ih =>
    intro j I A hj hr hf
    have hlen : (u ++ s.take j).length = u.length + j := by
      rw [List.length_append, List.length_take]
      omega
    refine t_M_turn_19 _ _ _ _ (cf (nle (by omega)) (c_letterOf he (by omega) ?_))
    rw [hr.1, hlen]
    refine ⟨vin (by omega), ?_⟩
    rw [nI_1 (u.length + j), nI_1 j, ncl]
    refine ih (j + 1) _ _ (by omega) ?_ (hf.tr (fx.tr (fx.iu (by simp)) (fx.au (by simp))))
    have := rb_add hr (c := s.getD j 0) (by omega)
    rw [hlen] at this
    rw [take_snoc (by omega), ← List.append_assoc]
    exact this
theorem c_turn (hd : 1 ≤ d) (he : de e s) (hr : rb I A w) {g : Nat} (hg : g ≤ w.length) (hl : w.length - g + s.length ≤ 80) (h : ∀ I' A', rb I' A' (w.take (w.length - g) ++ s) → fq I A I' A' → V I' A') : ev_Bv d 139 0 [some (.ref 1033), some (.int (nI g)), some (.long e), none, none, none] I A V := by
  obtain ⟨d, rfl⟩ : ∃ e, d = e + 1 := ⟨d - 1, by omega⟩
  have h2 := hr.2.1
  refine t_M_turn_0 _ _ (c_lettersOf he ?_)
  rw [hr.1, nI_sub hg]
  refine c_turn_l (u := w.take (w.length - g)) (by omega) he (by rw [List.length_take]; omega) h s.length 0 _ _ (by omega) ?_ (fx.iu (by simp))
  rw [List.take_zero, List.append_nil]
  exact rb_cut hr (by omega)
theorem c_isC_l (hr : rb I A w) (hi : i < w.length) (h : K (bz (cs w i)) I A) : ∀ n j x2, j + n = i + 1 → x2 = (if j = 0 then 1 else bz (cs w (j - 1))) → ev_Bi (d + 1) 133 4 [some (.ref 1033), some (.int (nI i)), some (.int x2), some (.int (nI j))] I A K := by
  have hl := hr.2.1
  intro n
  induction n with
  | zero =>
    intro j x2 hj hx
    have : j = i + 1 := by omega
    subst this
    rw [if_neg (by omega), Nat.add_sub_cancel] at hx
    subst hx
    refine t_M_isC_4 _ _ _ (ct (ult (by omega)) ⟨?_, h⟩)
    cases cs w i <;> decide
  | succ n ih =>
    intro j x2 hj hx
    refine t_M_isC_4 _ _ _ (cf (nlt (by omega)) ?_)
    rw [ncl, hr.2.2 _ (by omega), nI_1]
    refine ⟨vin (by omega), ?_⟩
    cases j with
    | zero =>
      by_cases cy : w.getD 0 0 = 121
      · refine ct cy (ct rfl (t_M_isC_28 _ _ _ (ih 1 1 (by omega) ?_)))
        rw [if_neg (by omega), Nat.sub_self, cs, if_pos cy]
        rfl
      · refine cf cy ⟨vin (by omega), c_isVowelM (fun c => z1 (ih 1 0 (by omega) ?_)) (fun c => z0 (ih 1 1 (by omega) ?_))⟩
        · rw [if_neg (by omega), Nat.sub_self, cs, if_neg cy, decide_eq_true c]
          rfl
        · rw [if_neg (by omega), Nat.sub_self, cs, if_neg cy, decide_eq_false c]
          rfl
    | succ k =>
      rw [if_neg (by omega), Nat.add_sub_cancel] at hx
      by_cases cy : w.getD (k + 1) 0 = 121
      · refine ct cy (cf (neq (b := 0) (by omega)) ?_)
        cases hc : cs w k with
        | false =>
          rw [hc] at hx
          subst hx
          refine ct rfl (t_M_isC_28 _ _ _ ?_)
          rw [nI_1]
          refine ih (k + 1 + 1) 1 (by omega) ?_
          rw [if_neg (by omega), Nat.add_sub_cancel, cs, if_pos cy, hc]
          rfl
        | true =>
          rw [hc] at hx
          subst hx
          refine cf (by decide) (ih (k + 1 + 1) 0 (by omega) ?_)
          rw [if_neg (by omega), Nat.add_sub_cancel, cs, if_pos cy, hc]
          rfl
      · refine cf cy ⟨vin (by omega), c_isVowelM (fun c => z1 (ih (k + 1 + 1) 0 (by omega) ?_)) (fun c => z0 (ih (k + 1 + 1) 1 (by omega) ?_))⟩
        · rw [if_neg (by omega), Nat.add_sub_cancel, cs, if_neg cy, decide_eq_true c]
          rfl
        · rw [if_neg (by omega), Nat.add_sub_cancel, cs, if_neg cy, decide_eq_false c]
          rfl
theorem c_isC (hd : 1 ≤ d) (hr : rb I A w) (hi : i < w.length) (h1 : cs w i = true → K 1 I A) (h0 : cs w i = false → K 0 I A) : ev_Bi d 133 0 [some (.ref 1033), some (.int (nI i)), none, none] I A K := by
  obtain ⟨d, rfl⟩ : ∃ e, d = e + 1 := ⟨d - 1, by omega⟩
  refine t_M_isC_0 _ (c_isC_l hr hi ?_ (i + 1) 0 1 (by omega) rfl)
  cases hc : cs w i with
  | true => exact h1 hc
  | false => exact h0 hc
theorem c_measure0 (hd : 2 ≤ d) (hr : rb I A w) (hn : n ≤ w.length) (h : K (nI (ms w n)) I A) : ev_Bi d 134 0 [some (.ref 1033), some (.int (nI n)), none, none] I A K := by
  obtain ⟨d, rfl⟩ : ∃ e, d = e + 1 := ⟨d - 1, by omega⟩
  have hl := hr.2.1
  refine t_M_measure0_0 _ ?_
  by_cases c0 : n = 0
  · subst c0
    exact t_M_measure0_4 _ _ _ (ct (ule (a := 0) (b := 1) (by omega)) h)
  have loop : ∀ m j, j + m = n → 1 ≤ j → ev_Bi (d + 1) 134 4 [some (.ref 1033), some (.int (nI n)), some (.int (nI (ms w j))), some (.int (nI j))] I A K := by
    intro m
    induction m with
    | zero =>
      intro j hj h1
      have : j = n := by omega
      subst this
      exact t_M_measure0_4 _ _ _ (ct (ule (by omega)) h)
    | succ m ih =>
      intro j hj h1
      have e1 : nI j - 1 = nI (j - 1) := nI_sub (b := 1) h1
      have em : ms w (j + 1) = ms w j + (if pv w j = true then 1 else 0) := rfl
      have hp : pv w j = (cs w j && !cs w (j - 1)) := by
        unfold pv
        rw [decide_eq_true (by omega : 0 < j), Bool.true_and]
      have nx := ih (j + 1) (by omega) (by omega)
      refine t_M_measure0_4 _ _ _ (cf (nle (by omega)) (c_isC (by omega) hr (by omega) (fun q => z1 ?_) (fun q => z0 ?_)))
      · rw [e1]
        refine c_isC (by omega) hr (by omega) (fun q' => z1 ?_) (fun q' => z0 ?_)
        · rw [em, hp, q, q'] at nx
          rw [nI_1 j, Int32.add_zero]
          exact nx
        · rw [em, hp, q, q'] at nx
          rw [nI_1 j, nI_1 (ms w j)]
          exact nx
      · rw [em, hp, q] at nx
        rw [nI_1 j, Int32.add_zero]
        exact nx
  exact loop (n - 1) 1 (by omega) (by omega)
theorem c_hasVM (hd : 2 ≤ d) (hr : rb I A w) (hn : n ≤ w.length) (h1 : hv w n → K 1 I A) (h0 : ¬ hv w n → K 0 I A) : ev_Bi d 135 0 [some (.ref 1033), some (.int (nI n)), none] I A K := by
  obtain ⟨d, rfl⟩ : ∃ e, d = e + 1 := ⟨d - 1, by omega⟩
  have hl := hr.2.1
  have loop : ∀ m j, j + m = n → (∀ k, k < j → cs w k = true) → ev_Bi (d + 1) 135 2 [some (.ref 1033), some (.int (nI n)), some (.int (nI j))] I A K := by
    intro m
    induction m with
    | zero =>
      intro j hj hh
      refine t_M_hasV_2 _ _ (ct (ule (by omega)) (h0 ?_))
      rintro ⟨k, hk, hc⟩
      rw [hh k (by omega)] at hc
      exact absurd hc (by decide)
    | succ m ih =>
      intro j hj hh
      refine t_M_hasV_2 _ _ (cf (nle (by omega)) (c_isC (by omega) hr (by omega) (fun q => z1 ?_) (fun q => z0 (h1 ⟨j, by omega, q⟩))))
      rw [nI_1]
      refine ih (j + 1) (by omega) (fun k hk => ?_)
      by_cases ce : k = j
      · rw [ce]
        exact q
      · exact hh k (by omega)
  exact t_M_hasV_0 _ (loop n 0 (by omega) (fun k hk => absurd hk (by omega)))
theorem c_isO (hd : 2 ≤ d) (hr : rb I A w) (hn : n ≤ w.length) (h1 : so w n → K 1 I A) (h0 : ¬ so w n → K 0 I A) : ev_Bi d 140 0 [some (.ref 1033), some (.int (nI n)), none] I A K := by
  obtain ⟨d, rfl⟩ : ∃ e, d = e + 1 := ⟨d - 1, by omega⟩
  have hl := hr.2.1
  refine t_M_isO_0 _ ?_
  by_cases c : n < 3
  · exact ct (ult (b := 3) c) (h0 (fun k => absurd k.1 (by omega)))
  have e1 : nI n - 1 = nI (n - 1) := nI_sub (b := 1) (by omega)
  have e2 : nI n - 2 = nI (n - 2) := nI_sub (b := 2) (by omega)
  have e3 : nI n - 3 = nI (n - 3) := nI_sub (b := 3) (by omega)
  rw [e1, e2, e3]
  refine cf (nlt (b := 3) (by omega)) (c_isC (by omega) hr (by omega) (fun q1 => z1 (c_isC (by omega) hr (by omega) (fun q2 => z1 (h0 (fun k => ?_))) (fun q2 => z0 (c_isC (by omega) hr (by omega) (fun q3 => z1 ?_) (fun q3 => z0 (h0 (fun k => ?_))))))) (fun q1 => z0 (h0 (fun k => ?_))))
  · rw [k.2.2.1] at q2
    exact absurd q2 (by decide)
  · rw [ncl, hr.2.2 _ (by omega)]
    exact ⟨vin (by omega), fun k1 => h0 (fun k => k.2.2.2.2.1 k1), fun k1 => ⟨fun k2 => h0 (fun k => k.2.2.2.2.2.1 k2), fun k2 => ⟨fun k3 => h0 (fun k => k.2.2.2.2.2.2 k3), fun k3 => h1 ⟨by omega, q1, q2, q3, k1, k2, k3⟩⟩⟩⟩
  · rw [k.2.2.2.1] at q3
    exact absurd q3 (by decide)
  · rw [k.2.1] at q1
    exact absurd q1 (by decide)
end CTR

/-! KEYS BY SOUNDS in the reference -/
theorem sf_one {o : List Int32} {c : Int32} (h : 1 ≤ o.length) : [c] <:+ o ↔ o.getD (o.length - 1) 0 = c := by
  rw [sf_iff]
  constructor
  · exact fun q => (sa_one (i := o.length - 1) (by omega)).mp q.2
  · exact fun q => ⟨h, (sa_one (i := o.length - 1) (by omega)).mpr q⟩
theorem sf_two {o : List Int32} {a b : Int32} (h : 2 ≤ o.length) : [a, b] <:+ o ↔ o.getD (o.length - 2) 0 = a ∧ o.getD (o.length - 1) 0 = b := by
  rw [sf_iff]
  constructor
  · intro q
    have q2 := ((sa_iff (by simp)).mp q.2).2
    have q3 := q2 0 (by simp)
    have q4 := q2 1 (by simp)
    refine ⟨q3, ?_⟩
    have e : o.length - [a, b].length + 1 = o.length - 1 := by simp; omega
    rw [e] at q4
    exact q4
  · intro q
    refine ⟨h, (sa_iff (by simp)).mpr ⟨by simp; omega, fun j hj => ?_⟩⟩
    have hj2 : j < 2 := by simpa using hj
    by_cases c : j = 0
    · subst c
      exact q.1
    · have : j = 1 := by omega
      subst this
      have e : o.length - [a, b].length + 1 = o.length - 1 := by simp; omega
      rw [e]
      exact q.2
theorem ou_yy {I A : Nat → Nat → Int32} {o : List Int32} {c : Int32} (h : ou I A o) (h2 : 2 ≤ o.length) : ou (ev_upd I 1033 3 (nI (o.length - 1))) (ev_upd A 1035 (o.length - 2) c) (o.take (o.length - 2) ++ [c]) := by
  have hl : (o.take (o.length - 2)).length = o.length - 2 := by rw [List.length_take]; omega
  have hl2 : (o.take (o.length - 2) ++ [c]).length = o.length - 1 := by
    rw [List.length_append, hl]
    simp
    omega
  refine ⟨by rw [ev_upd_eq, hl2], fun j hj => ?_⟩
  rw [hl2] at hj
  rw [ev_upd_at, getD_app, hl]
  by_cases c' : j = o.length - 2
  · rw [if_pos c', if_neg (by omega), c', Nat.sub_self]
    rfl
  · rw [if_neg c', if_pos (by omega), getD_take (by omega)]
    exact h.2 j (by omega)
section CTR
variable {d : Nat} {I A : Nat → Nat → Int32} {K : Int32 → (Nat → Nat → Int32) → (Nat → Nat → Int32) → Prop} {V : (Nat → Nat → Int32) → (Nat → Nat → Int32) → Prop} {i f k : Nat} {N : Nat} {xs : Nat → Int32} {u w t o : List Int32} {ws : List (List Int32)}
theorem c_becomes (s s' : List Int32) {e e' : Int64} (he : de e s) (he' : de e' s') (hd : 2 ≤ d) (hs : s ≠ []) (hl : s'.length = s.length) (hs8 : s.length ≤ 13) (hr : rb I A w) (hf : f ≤ 80) (h1 : sa w f s → ∀ I' A', rb I' A' (rp w f s') → fq I A I' A' → K 1 I' A') (h0 : ¬ sa w f s → K 0 I A) : ev_Bi d 173 0 [some (.ref 1033), some (.int (nI f)), some (.long e), none, some (.long e'), none, none, none, none] I A K := by
  obtain ⟨d, rfl⟩ : ∃ e, d = e + 1 := ⟨d - 1, by omega⟩
  have h80 := hr.2.1
  refine t_M_becomes_0 _ _ _ (c_standsM (by omega) he hs hr (by omega) hs8 (fun g => c_lettersOf he' ?_) (fun g => c_lettersOf he' (t_M_becomes_18 _ _ _ _ _ _ (z0 ⟨by decide, h0 g⟩))))
  have hfl : f + s'.length ≤ w.length := by
    rw [hl]
    exact ((sa_iff hs).mp g).1
  have loop : ∀ n j I1 A1, j + n = s'.length → rb I1 A1 (w.take f ++ s'.take j ++ w.drop (f + j)) → fq I A I1 A1 → ev_Bi (d + 1) 173 18 [some (.ref 1033), some (.int (nI f)), some (.long e), none, some (.long e'), none, some (.int 1), some (.int (nI s'.length)), some (.int (nI j))] I1 A1 K := by
    intro n
    induction n with
    | zero =>
      intro j I1 A1 hj r1 f1
      refine t_M_becomes_18 _ _ _ _ _ _ (z1 (ct (ule (by omega)) ⟨by decide, h1 g _ _ ?_ f1⟩))
      have : j = s'.length := by omega
      rw [this, List.take_length] at r1
      exact r1
    | succ n ih =>
      intro j I1 A1 hj r1 f1
      refine t_M_becomes_18 _ _ _ _ _ _ (z1 (cf (nle (by omega)) (c_letterOf he' (by omega) ?_)))
      rw [nI_add, nI_1, ncl]
      refine ⟨vin (by omega), ih (j + 1) _ _ (by omega) ?_ (f1.tr (fx.au (by simp)))⟩
      rw [← set_take hfl (by omega)]
      refine rb_set r1 ?_
      simp only [List.length_append, List.length_take, List.length_drop]
      omega
  refine loop s'.length 0 I A (by omega) ?_ fx.rf
  rw [List.take_zero, List.append_nil, Nat.add_zero, List.take_append_drop]
  exact hr
theorem c_sound (hd : 3 ≤ d) (hr : rb I A w) (hk1 : 1 ≤ k) (hk : k < w.length) (h : ∀ I' A', rb I' A' (chl w k) → fq I A I' A' → V I' A') : ev_Bv d 175 0 [some (.ref 1033), some (.int (nI k)), none, none] I A V := by
  obtain ⟨d, rfl⟩ : ∃ e, d = e + 1 := ⟨d - 1, by omega⟩
  have h80 := hr.2.1
  have e1 : nI k - 1 = nI (k - 1) := nI_sub (b := 1) hk1
  have vk : vp_in (nI k) 80 := vin (by omega)
  have vk1 : vp_in (nI (k - 1)) 80 := vin (by omega)
  have hset : ∀ c, chl w k = w.set k c → V I (ev_upd A 1048 k c) := fun c e => h _ _ (by rw [e]; exact rb_set hr hk) (fx.au (by simp))
  refine t_M_sound_0 _ (c_becomes [101, 118] [97, 102] (by decide +kernel) (by decide +kernel) (by omega) (by simp) rfl (by simp) hr (by omega) (fun g I1 A1 r1 f1 => z1 (h _ _ (by rw [chl, if_pos g]; exact r1) f1)) (fun nev => z0 ?_))
  rw [ncl, hr.2.2 _ hk]
  refine ⟨vk, c_isVowelM (fun v => z1 ⟨vk, hset _ (by rw [chl, if_neg nev, if_pos v])⟩) (fun nv => z0 ?_)⟩
  have ch1 : chl w k = if w.getD k 0 = 104 ∧ (¬ vw (w.getD (k - 1) 0) ∨ ¬ vw (w.getD (k + 1) 0)) then w.set k (w.getD (k - 1) 0)
    else if w.getD k 0 = 119 ∧ vw (w.getD (k - 1) 0) then w.set k (w.getD (k - 1) 0)
    else if w.getD k 0 = 113 then w.set k 103
    else if w.getD k 0 = 122 then w.set k 115
    else if w.getD k 0 = 109 then w.set k 110
    else if sa w k [107, 110] then w.set k 110
    else if w.getD k 0 = 107 then w.set k 99
    else if sa w k [115, 99, 104] then rp w k [115, 115, 115]
    else if sa w k [112, 104] then rp w k [102, 102]
    else w := by rw [chl, if_neg nev, if_neg nv]
  have nh : ∀ {c : Int32}, w.getD k 0 = c → c ≠ 104 → ¬ (w.getD k 0 = 104 ∧ (¬ vw (w.getD (k - 1) 0) ∨ ¬ vw (w.getD (k + 1) 0))) := fun hc hn q => hn (hc.symm.trans q.1)
  have nw : ∀ {c : Int32}, w.getD k 0 = c → c ≠ 119 → ¬ (w.getD k 0 = 119 ∧ vw (w.getD (k - 1) 0)) := fun hc hn q => hn (hc.symm.trans q.1)
  have ne' : ∀ {c c' : Int32}, w.getD k 0 = c → c ≠ c' → ¬ w.getD k 0 = c' := fun hc hn q => hn (hc.symm.trans q)
  refine ⟨fun c => ⟨vk, hset _ (by rw [ch1, if_neg (nh c (by decide)), if_neg (nw c (by decide)), if_pos c])⟩, fun n113 => ⟨fun c => ⟨vk, hset _ (by rw [ch1, if_neg (nh c (by decide)), if_neg (nw c (by decide)), if_neg n113, if_pos c])⟩, fun n122 => ⟨fun c => ⟨vk, hset _ (by rw [ch1, if_neg (nh c (by decide)), if_neg (nw c (by decide)), if_neg n113, if_neg n122, if_pos c])⟩, fun n109 => ⟨fun c => ?_, fun n107 => ?_⟩⟩⟩⟩
  · refine c_standsM (s := [107, 110]) (by omega) (by decide +kernel) (by simp) hr (by omega) (by simp) (fun g => z1 ⟨vk, hset _ ?_⟩) (fun g => z0 ⟨vk, hset _ ?_⟩)
    · rw [ch1, if_neg (nh c (by decide)), if_neg (nw c (by decide)), if_neg n113, if_neg n122, if_neg n109, if_pos g]
    · rw [ch1, if_neg (nh c (by decide)), if_neg (nw c (by decide)), if_neg n113, if_neg n122, if_neg n109, if_neg g, if_pos c]
  have ch3 : ¬ (w.getD k 0 = 104 ∧ (¬ vw (w.getD (k - 1) 0) ∨ ¬ vw (w.getD (k + 1) 0))) → ¬ (w.getD k 0 = 119 ∧ vw (w.getD (k - 1) 0)) → chl w k = if sa w k [115, 99, 104] then rp w k [115, 115, 115] else if sa w k [112, 104] then rp w k [102, 102] else w := fun a b => by
    rw [ch1, if_neg a, if_neg b, if_neg n113, if_neg n122, if_neg n109, if_neg (fun q => n107 (sa_hd q)), if_neg n107]
  refine c_becomes [115, 99, 104] [115, 115, 115] (by decide +kernel) (by decide +kernel) (by omega) (by simp) rfl (by simp) hr (by omega) (fun g I1 A1 r1 f1 => z1 (h _ _ ?_ f1)) (fun nsch => z0 (c_becomes [112, 104] [102, 102] (by decide +kernel) (by decide +kernel) (by omega) (by simp) rfl (by simp) hr (by omega) (fun g I1 A1 r1 f1 => z1 (h _ _ ?_ f1)) (fun nph => z0 ?_)))
  · rw [ch3 (nh (sa_hd g) (by decide)) (nw (sa_hd g) (by decide)), if_pos g]
    exact r1
  · rw [ch3 (nh (sa_hd g) (by decide)) (nw (sa_hd g) (by decide)), if_neg nsch, if_pos g]
    exact r1
  have s226 : ∀ x2 x3 : Int32, chl w k = w.set k (w.getD (k - 1) 0) → ev_Bv (d + 1) 175 226 [some (.ref 1033), some (.int (nI k)), some (.int x2), some (.int x3)] I A V := fun x2 x3 e => by
    refine t_M_sound_226 _ _ _ ?_
    rw [e1, ncl, ncl, hr.2.2 _ (by omega)]
    exact ⟨vk1, vk, hset _ e⟩
  have s200 : ¬ (w.getD k 0 = 104 ∧ (¬ vw (w.getD (k - 1) 0) ∨ ¬ vw (w.getD (k + 1) 0))) → ∀ o3, ev_Bv (d + 1) 175 200 [some (.ref 1033), some (.int (nI k)), some (.int (w.getD k 0)), o3] I A V := fun a o3 => by
    have fin : ¬ (w.getD k 0 = 119 ∧ vw (w.getD (k - 1) 0)) → V I A := fun b => h _ _ (by rw [ch3 a b, if_neg nsch, if_neg nph]; exact hr) fx.rf
    refine t_M_sound_200 _ _ _ ⟨fun c => ?_, fun c => fin (fun q => c q.1)⟩
    rw [e1, ncl, hr.2.2 _ (by omega)]
    exact ⟨vk1, c_isVowelM (fun v => z1 (s226 _ _ (by rw [ch1, if_neg a, if_pos ⟨c, v⟩]))) (fun v => z0 (fin (fun q => v q.2)))⟩
  have s196 : (w.getD k 0 = 104 ∧ (¬ vw (w.getD (k - 1) 0) ∨ ¬ vw (w.getD (k + 1) 0))) → ∀ o3, ev_Bv (d + 1) 175 196 [some (.ref 1033), some (.int (nI k)), some (.int (w.getD k 0)), o3] I A V := fun a o3 => t_M_sound_196 _ _ _ (s226 _ _ (by rw [ch1, if_pos a]))
  refine ⟨fun c => ?_, fun c => s200 (fun q => c q.1) _⟩
  rw [e1, ncl, hr.2.2 _ (by omega)]
  refine ⟨vk1, c_isVowelM (fun v => z1 ?_) (fun v => z0 (s196 ⟨c, .inl v⟩ _))⟩
  rw [nI_1, hr.1]
  by_cases ce : k + 1 = w.length
  · refine ct (by rw [ce]) (s196 ⟨c, .inr ?_⟩ _)
    rw [getD_out (by omega)]
    decide
  · refine cf (neq ce) ?_
    rw [ncl, hr.2.2 _ (by omega)]
    refine ⟨vin (by omega), c_isVowelM (fun v2 => z1 (s200 (fun q => ?_) _)) (fun v2 => z0 (s196 ⟨c, .inr v2⟩ _))⟩
    rcases q.2 with q | q
    · exact q v
    · exact q v2
abbrev yS : List (Nat × Nat) := [(1033, 21), (1033, 3)]
abbrev yT : List Nat := [1048, 1035]
theorem c_keyBySounds (hd : 4 ≤ d) (h1 : 1 ≤ w.length) (h24 : w.length ≤ 24) (hr : rb I A w) (h : ∀ I' A', ou I' A' (sds w) → fx yS yT I A I' A' → K (nI (sds w).length) I' A') : ev_Bi d 174 0 [some (.ref 1033), none, none] I A K := by
  obtain ⟨d, rfl⟩ : ∃ e, d = e + 1 := ⟨d - 1, by omega⟩
  have hbl := bg_len (w := w)
  have hel := edg_len (w := bg w) (by omega)
  unfold sds at h
  have e0 : (0 : Int32).toNatClampNeg = 0 := by decide
  have s401 : ∀ o I1 A1 x1 x2, o = tr3 (tr2 (tr1 (slp (edg (bg w)) ((edg (bg w)).length - 1)).2)) → o.length ≤ 24 → ou I1 A1 o → fx yS yT I A I1 A1 → ev_Bi (d + 1) 174 401 [some (.ref 1033), some (.int x1), some (.int x2)] I1 A1 K := fun o I1 A1 x1 x2 e hl u1 f1 => by
    rw [← e] at h
    refine t_M_keyBySounds_401 _ _ ?_
    rw [u1.1]
    have hc : ∀ m, m = min 6 o.length → K (nI m) (ev_upd I1 1033 3 (nI m)) A1 := fun m em => by
      have hl' : (o.take 6).length = m := by rw [List.length_take, em]
      have u2 := ou_cut (m := m) u1 (by omega)
      have et : o.take m = o.take 6 := by
        rw [em]
        by_cases c : 6 ≤ o.length
        · rw [Nat.min_eq_left c]
        · rw [Nat.min_eq_right (by omega), List.take_length, List.take_of_length_le (by omega)]
      rw [et] at u2
      have := h _ _ u2 (f1.tr (fx.iu (by simp)))
      rw [hl'] at this
      exact this
    refine t_M_small_0 _ _ ?_
    by_cases c : 6 ≤ o.length
    · exact ct (ule (a := 6) c) (hc 6 (by omega))
    · exact cf (nle (a := 6) (by omega)) (hc _ (by omega))
  have s367 : ∀ o I1 A1 x1 x2, o = tr2 (tr1 (slp (edg (bg w)) ((edg (bg w)).length - 1)).2) → o.length ≤ 24 → ou I1 A1 o → fx yS yT I A I1 A1 → ev_Bi (d + 1) 174 367 [some (.ref 1033), some (.int x1), some (.int x2)] I1 A1 K := fun o I1 A1 x1 x2 e hl u1 f1 => by
    have e' : tr3 (tr2 (tr1 (slp (edg (bg w)) ((edg (bg w)).length - 1)).2)) = if 1 < o.length ∧ [97] <:+ o then o.take (o.length - 1) else o := by rw [← e]; rfl
    refine t_M_keyBySounds_367 _ _ ?_
    rw [u1.1]
    by_cases c : o.length ≤ 1
    · refine ct (ule (b := 1) c) (s401 _ _ _ _ _ ?_ hl u1 f1)
      rw [e', if_neg (fun k => absurd k.1 (by omega))]
    · have e1 : nI o.length - 1 = nI (o.length - 1) := nI_sub (b := 1) (by omega)
      rw [e1, ncl, u1.2 _ (by omega)]
      refine cf (nle (b := 1) (by omega)) ⟨vin (by omega), fun q => s401 _ _ _ _ _ ?_ ?_ (ou_cut u1 (by omega)) (f1.tr (fx.iu (by simp))), fun q => s401 _ _ _ _ _ ?_ hl u1 f1⟩
      · rw [e', if_pos ⟨by omega, (sf_one (by omega)).mpr q⟩]
      · rw [List.length_take]
        omega
      · rw [e', if_neg (fun k => q ((sf_one (by omega)).mp k.2))]
  have s304 : ∀ o I1 A1 x1 x2, o = tr1 (slp (edg (bg w)) ((edg (bg w)).length - 1)).2 → o.length ≤ 24 → ou I1 A1 o → fx yS yT I A I1 A1 → ev_Bi (d + 1) 174 304 [some (.ref 1033), some (.int x1), some (.int x2)] I1 A1 K := fun o I1 A1 x1 x2 e hl u1 f1 => by
    have e' : tr2 (tr1 (slp (edg (bg w)) ((edg (bg w)).length - 1)).2) = if 1 < o.length ∧ [97, 121] <:+ o then o.take (o.length - 2) ++ [121] else o := by rw [← e]; rfl
    refine t_M_keyBySounds_304 _ _ ?_
    rw [u1.1]
    by_cases c : o.length ≤ 1
    · refine ct (ule (b := 1) c) (s367 _ _ _ _ _ ?_ hl u1 f1)
      rw [e', if_neg (fun k => absurd k.1 (by omega))]
    · have e1 : nI o.length - 1 = nI (o.length - 1) := nI_sub (b := 1) (by omega)
      have e2 : nI o.length - 2 = nI (o.length - 2) := nI_sub (b := 2) (by omega)
      have e3 : nI (o.length - 1) - 1 = nI (o.length - 2) := nI_sub (b := 1) (by omega)
      rw [e1, e2, e3, ncl, ncl, u1.2 _ (by omega), u1.2 _ (by omega)]
      refine cf (nle (b := 1) (by omega)) ⟨vin (by omega), fun q => ⟨vin (by omega), fun q2 => ⟨vin (by omega), s367 _ _ _ _ _ ?_ ?_ (ou_yy u1 (by omega)) (f1.tr (fx.tr (fx.iu (by simp)) (fx.au (by simp))))⟩, fun q2 => s367 _ _ _ _ _ ?_ hl u1 f1⟩, fun q => s367 _ _ _ _ _ ?_ hl u1 f1⟩
      · rw [e', if_pos ⟨by omega, (sf_two (by omega)).mpr ⟨q2, q⟩⟩]
      · rw [List.length_append, List.length_take]
        simp
        omega
      · rw [e', if_neg (fun k => q2 ((sf_two (by omega)).mp k.2).1)]
      · rw [e', if_neg (fun k => q ((sf_two (by omega)).mp k.2).2)]
  have s187 : ∀ I1 A1 x1 o2, rb I1 A1 (edg (bg w)) → fq I A I1 A1 → ev_Bi (d + 1) 174 187 [some (.ref 1033), some (.int x1), o2] I1 A1 K := fun I1 A1 x1 o2 r1 f1 => by
    generalize edg (bg w) = v at r1 s304 hel
    have loop : ∀ n j I2 A2, j + 1 + n = v.length → rb I2 A2 (slp v j).1 → ou I2 A2 (slp v j).2 → fx yS yT I A I2 A2 → ev_Bi (d + 1) 174 206 [some (.ref 1033), some (.int x1), some (.int (nI (j + 1)))] I2 A2 K := by
      intro n
      induction n with
      | zero =>
        intro j I2 A2 hj r2 u2 f2
        obtain ⟨l1, l2, l3⟩ := slp_len (w := v) j
        have ej : j = v.length - 1 := by omega
        have e' : tr1 (slp v (v.length - 1)).2 = if 1 < (slp v j).2.length ∧ [115] <:+ (slp v j).2 then (slp v j).2.take ((slp v j).2.length - 1) else (slp v j).2 := by rw [← ej]; rfl
        refine t_M_keyBySounds_206 _ _ ?_
        rw [r2.1, l1, u2.1]
        refine ct (ule (by omega)) ?_
        generalize (slp v j).2 = o at u2 l2 l3 e'
        by_cases c : o.length ≤ 1
        · refine ct (ule (b := 1) c) (s304 _ _ _ _ _ ?_ (by omega) u2 f2)
          rw [e', if_neg (fun k => absurd k.1 (by omega))]
        · have e1 : nI o.length - 1 = nI (o.length - 1) := nI_sub (b := 1) (by omega)
          rw [e1, ncl, u2.2 _ (by omega)]
          refine cf (nle (b := 1) (by omega)) ⟨vin (by omega), fun q => s304 _ _ _ _ _ ?_ ?_ (ou_cut u2 (by omega)) (f2.tr (fx.iu (by simp))), fun q => s304 _ _ _ _ _ ?_ (by omega) u2 f2⟩
          · rw [e', if_pos ⟨by omega, (sf_one (by omega)).mpr q⟩]
          · rw [List.length_take]
            omega
          · rw [e', if_neg (fun k => q ((sf_one (by omega)).mp k.2))]
      | succ n ih =>
        intro j I2 A2 hj r2 u2 f2
        obtain ⟨l1, l2, l3⟩ := slp_len (w := v) j
        have nx : ∀ I3 A3, rb I3 A3 (slp v (j + 1)).1 → ou I3 A3 (slp v (j + 1)).2 → fx yS yT I A I3 A3 → ev_Bi (d + 1) 174 264 [some (.ref 1033), some (.int x1), some (.int (nI (j + 1)))] I3 A3 K := fun I3 A3 r3 u3 f3 => by
          refine t_M_keyBySounds_264 _ _ ?_
          rw [nI_1]
          exact ih (j + 1) I3 A3 (by omega) r3 u3 f3
        refine t_M_keyBySounds_206 _ _ ?_
        rw [r2.1, l1]
        refine cf (nle (by omega)) (c_sound (by omega) r2 (by omega) (by omega) (fun I3 A3 r3 f3 => ?_))
        have u3 : ou I3 A3 (slp v j).2 := u2.fx f3 (by decide) (by decide)
        have f23 : fx yS yT I A I3 A3 := f2.tr (f3.sub (by decide) (by decide))
        have e1 : nI (slp v j).2.length - 1 = nI ((slp v j).2.length - 1) := nI_sub (b := 1) (by omega)
        have hcl : j + 1 < (chl (slp v j).1 (j + 1)).length := by rw [chl_len, l1]; omega
        rw [u3.1, e1, ncl (a := j + 1), ncl (a := (slp v j).2.length - 1), ncl (a := (slp v j).2.length), r3.2.2 _ hcl, u3.2 _ (by omega), nI_1 (slp v j).2.length]
        refine ⟨vin (by omega), vin (by omega), fun q => nx _ _ r3 ?_ f23, fun q => ⟨vin (by omega), vin (by omega), nx _ _ ?_ ?_ (f23.tr (fx.tr (fx.iu (by simp)) (fx.au (by simp))))⟩⟩
        · rw [slp]
          simp only
          rw [if_pos q]
          exact u3
        · have g2 : fx kS kT I3 A3 (ev_upd I3 1033 3 (nI ((slp v j).2.length + 1))) (ev_upd A3 1035 (slp v j).2.length ((chl (slp v j).1 (j + 1)).getD (j + 1) 0)) := fx.tr (fx.iu (by simp)) (fx.au (by simp))
          exact r3.fx g2 (by decide) (by decide)
        · rw [slp]
          simp only
          rw [if_neg q]
          exact ou_add u3
    refine t_M_keyBySounds_187 _ _ ⟨vin (n := 0) (by omega), vin (n := 0) (by omega), ?_⟩
    rw [e0, r1.2.2 0 (by omega)]
    have g2 : fx kS kT I1 A1 (ev_upd I1 1033 3 1) (ev_upd A1 1035 0 (v.getD 0 0)) := fx.tr (fx.iu (by simp)) (fx.au (by simp))
    refine loop (v.length - 1) 0 _ _ (by omega) (r1.fx g2 (by decide) (by decide)) ⟨ev_upd_eq, fun j hj => ?_⟩ ((f1.sub (by decide) (by decide)).tr (g2.sub (by decide) (by decide)))
    have : j = 0 := by simpa [slp] using hj
    subst this
    rw [ev_upd_eq]
    rfl
  have s84 : ∀ I1 A1 o1 o2, rb I1 A1 (bg w) → fq I A I1 A1 → ev_Bi (d + 1) 174 84 [some (.ref 1033), o1, o2] I1 A1 K := fun I1 A1 o1 o2 r1 f1 => by
    refine t_M_keyBySounds_84 _ _ ?_
    rw [r1.1]
    by_cases c3 : (bg w).length < 3
    · refine ct (ule (b := 2) (by omega)) (s187 _ _ _ _ ?_ f1)
      rw [edg, if_pos c3]
      exact r1
    refine cf (nle (b := 2) (by omega)) ?_
    have y118 : ([101, 101] <:+ bg w ∨ [105, 101] <:+ bg w) → ev_Bi (d + 1) 174 118 [some (.ref 1033), some (.int 1), o2] I1 A1 K := fun g => by
      refine t_M_keyBySounds_118 _ _ (c_turn (g := 2) (s := [121]) (by omega) (by decide +kernel) r1 (by omega) (by simp; omega) (fun I2 A2 r2 f2 => s187 _ _ _ _ ?_ (f1.tr f2)))
      rw [edg, if_neg c3, if_pos g]
      exact r2
    have d179 : ¬ ([101, 101] <:+ bg w ∨ [105, 101] <:+ bg w) → ([100, 116] <:+ bg w ∨ [114, 116] <:+ bg w ∨ [114, 100] <:+ bg w ∨ [110, 116] <:+ bg w ∨ [110, 100] <:+ bg w) → ev_Bi (d + 1) 174 179 [some (.ref 1033), some (.int 1), o2] I1 A1 K := fun g1 g => by
      refine t_M_keyBySounds_179 _ _ (c_turn (g := 2) (s := [100]) (by omega) (by decide +kernel) r1 (by omega) (by simp; omega) (fun I2 A2 r2 f2 => s187 _ _ _ _ ?_ (f1.tr f2)))
      rw [edg, if_neg c3, if_neg g1, if_pos g]
      exact r2
    refine c_endsM (s := [101, 101]) (by omega) (by decide +kernel) (by simp) (by simp) r1 (fun g => z1 (y118 (.inl g))) (fun g1 => z0 (c_endsM (s := [105, 101]) (by omega) (by decide +kernel) (by simp) (by simp) r1 (fun g => z1 (y118 (.inr g))) (fun g2 => z0 ?_)))
    have n12 : ¬ ([101, 101] <:+ bg w ∨ [105, 101] <:+ bg w) := fun k => k.elim g1 g2
    refine c_endsM (s := [100, 116]) (by omega) (by decide +kernel) (by simp) (by simp) r1 (fun g => z1 (d179 n12 (.inl g))) (fun g3 => z0 (c_endsM (s := [114, 116]) (by omega) (by decide +kernel) (by simp) (by simp) r1 (fun g => z1 (d179 n12 (.inr (.inl g)))) (fun g4 => z0 (c_endsM (s := [114, 100]) (by omega) (by decide +kernel) (by simp) (by simp) r1 (fun g => z1 (d179 n12 (.inr (.inr (.inl g))))) (fun g5 => z0 (c_endsM (s := [110, 116]) (by omega) (by decide +kernel) (by simp) (by simp) r1 (fun g => z1 (d179 n12 (.inr (.inr (.inr (.inl g)))))) (fun g6 => z0 (c_endsM (s := [110, 100]) (by omega) (by decide +kernel) (by simp) (by simp) r1 (fun g => z1 (d179 n12 (.inr (.inr (.inr (.inr g)))))) (fun g7 => z0 (s187 _ _ _ _ ?_ f1))))))))))
    rw [edg, if_neg c3, if_neg n12, if_neg]
    · exact r1
    · rintro (k | k | k | k | k)
      · exact g3 k
      · exact g4 k
      · exact g5 k
      · exact g6 k
      · exact g7 k
  have hbg : bg w = if sa w 0 [109, 97, 99] then rp w 0 [109, 99, 99] else if sa w 0 [107, 110] then rp w 0 [110, 110] else if sa w 0 [107] then rp w 0 [99]
    else if sa w 0 [112, 104] then rp w 0 [102, 102] else if sa w 0 [112, 102] then rp w 0 [102, 102] else if sa w 0 [115, 99, 104] then rp w 0 [115, 115, 115] else w := rfl
  refine t_M_keyBySounds_0 (c_becomes (f := 0) [109, 97, 99] [109, 99, 99] (by decide +kernel) (by decide +kernel) (by omega) (by simp) rfl (by simp) hr (by omega) (fun g I1 A1 r1 f1 => z1 (s84 _ _ _ _ (by rw [hbg, if_pos g]; exact r1) f1)) (fun g1 => z0 ?_))
  rw [if_neg g1] at hbg
  refine c_becomes (f := 0) [107, 110] [110, 110] (by decide +kernel) (by decide +kernel) (by omega) (by simp) rfl (by simp) hr (by omega) (fun g I1 A1 r1 f1 => z1 (s84 _ _ _ _ (by rw [hbg, if_pos g]; exact r1) f1)) (fun g2 => z0 ?_)
  rw [if_neg g2] at hbg
  refine c_becomes (f := 0) [107] [99] (by decide +kernel) (by decide +kernel) (by omega) (by simp) rfl (by simp) hr (by omega) (fun g I1 A1 r1 f1 => z1 (s84 _ _ _ _ (by rw [hbg, if_pos g]; exact r1) f1)) (fun g3 => z0 ?_)
  rw [if_neg g3] at hbg
  refine c_becomes (f := 0) [112, 104] [102, 102] (by decide +kernel) (by decide +kernel) (by omega) (by simp) rfl (by simp) hr (by omega) (fun g I1 A1 r1 f1 => z1 (s84 _ _ _ _ (by rw [hbg, if_pos g]; exact r1) f1)) (fun g4 => z0 ?_)
  rw [if_neg g4] at hbg
  refine c_becomes (f := 0) [112, 102] [102, 102] (by decide +kernel) (by decide +kernel) (by omega) (by simp) rfl (by simp) hr (by omega) (fun g I1 A1 r1 f1 => z1 (s84 _ _ _ _ (by rw [hbg, if_pos g]; exact r1) f1)) (fun g5 => z0 ?_)
  rw [if_neg g5] at hbg
  refine c_becomes (f := 0) [115, 99, 104] [115, 115, 115] (by decide +kernel) (by decide +kernel) (by omega) (by simp) rfl (by simp) hr (by omega) (fun g I1 A1 r1 f1 => z1 (s84 _ _ _ _ (by rw [hbg, if_pos g]; exact r1) f1)) (fun g6 => z0 ?_)
  rw [if_neg g6] at hbg
  have r1 : rb I A (bg w) := by
    rw [hbg]
    exact hr
  have f1 : fq I A I A := fx.rf
  clear hbg
  rw [r1.1]
  by_cases c3 : (bg w).length < 3
  · refine ct (ule (b := 2) (by omega)) (s187 _ _ _ _ ?_ f1)
    rw [edg, if_pos c3]
    exact r1
  refine cf (nle (b := 2) (by omega)) ?_
  have y118 : ([101, 101] <:+ bg w ∨ [105, 101] <:+ bg w) → ev_Bi (d + 1) 174 118 [some (.ref 1033), some (.int 0), none] I A K := fun g => by
    refine t_M_keyBySounds_118 _ _ (c_turn (g := 2) (s := [121]) (by omega) (by decide +kernel) r1 (by omega) (by simp; omega) (fun I2 A2 r2 f2 => s187 _ _ _ _ ?_ (f1.tr f2)))
    rw [edg, if_neg c3, if_pos g]
    exact r2
  have d179 : ¬ ([101, 101] <:+ bg w ∨ [105, 101] <:+ bg w) → ([100, 116] <:+ bg w ∨ [114, 116] <:+ bg w ∨ [114, 100] <:+ bg w ∨ [110, 116] <:+ bg w ∨ [110, 100] <:+ bg w) → ev_Bi (d + 1) 174 179 [some (.ref 1033), some (.int 0), none] I A K := fun g1 g => by
    refine t_M_keyBySounds_179 _ _ (c_turn (g := 2) (s := [100]) (by omega) (by decide +kernel) r1 (by omega) (by simp; omega) (fun I2 A2 r2 f2 => s187 _ _ _ _ ?_ (f1.tr f2)))
    rw [edg, if_neg c3, if_neg g1, if_pos g]
    exact r2
  refine c_endsM (s := [101, 101]) (by omega) (by decide +kernel) (by simp) (by simp) r1 (fun g => z1 (y118 (.inl g))) (fun g1 => z0 (c_endsM (s := [105, 101]) (by omega) (by decide +kernel) (by simp) (by simp) r1 (fun g => z1 (y118 (.inr g))) (fun g2 => z0 ?_)))
  have n12 : ¬ ([101, 101] <:+ bg w ∨ [105, 101] <:+ bg w) := fun k => k.elim g1 g2
  refine c_endsM (s := [100, 116]) (by omega) (by decide +kernel) (by simp) (by simp) r1 (fun g => z1 (d179 n12 (.inl g))) (fun g3 => z0 (c_endsM (s := [114, 116]) (by omega) (by decide +kernel) (by simp) (by simp) r1 (fun g => z1 (d179 n12 (.inr (.inl g)))) (fun g4 => z0 (c_endsM (s := [114, 100]) (by omega) (by decide +kernel) (by simp) (by simp) r1 (fun g => z1 (d179 n12 (.inr (.inr (.inl g))))) (fun g5 => z0 (c_endsM (s := [110, 116]) (by omega) (by decide +kernel) (by simp) (by simp) r1 (fun g => z1 (d179 n12 (.inr (.inr (.inr (.inl g)))))) (fun g6 => z0 (c_endsM (s := [110, 100]) (by omega) (by decide +kernel) (by simp) (by simp) r1 (fun g => z1 (d179 n12 (.inr (.inr (.inr (.inr g)))))) (fun g7 => z0 (s187 _ _ _ _ ?_ f1))))))))))
  rw [edg, if_neg c3, if_neg n12, if_neg]
  · exact r1
  · rintro (k | k | k | k | k)
    · exact g3 k
    · exact g4 k
    · exact g5 k
    · exact g6 k
    · exact g7 k
theorem u_key (hd : 10 ≤ d) (h : Sm N xs I A t ws o) (x y : Int32) : ev_Bi d 109 0 [some (.ref 1000), some (.int x), some (.int y)] I A (md d N xs 176 [some (.ref 1033), some (.int x), some (.int y)]) := by
  obtain ⟨d, rfl⟩ : ∃ e, d = e + 1 := ⟨d - 1, by omega⟩
  have h11 := Sm_S11 h
  obtain ⟨hcw, hmw, ho, _⟩ := h.2.1
  refine t_S_key_0 x y (c_knows hcw ho (fun c => z1 ?_) (fun c => z0 ⟨h11, t_M_key_0 _ _ (c_strange (by omega) hmw ho (fun _ => z1 ⟨rfl, t, ws, o, h⟩) (fun n => absurd n c))⟩))
  obtain ⟨i, w, rfl, hi⟩ := c
  have hk := ho.at hi
  obtain ⟨a, ha⟩ := h.2.2.2.2.2.2.2.2.2.1.1
  have out : x ≠ 0 → x ≠ 1 → md (d + 1) N xs 176 [some (.ref 1033), some (.int x), some (.int (nI i))] (-2) I A := fun q1 q2 => by
    refine ⟨h11, t_M_key_0 _ _ (c_strange (by omega) hmw ho (fun n => absurd ⟨i, w, rfl, hi⟩ n) (fun _ => z0 (c_beyond (fun _ => z1 ⟨rfl, t, ws, o, h⟩) (fun k => ?_))))⟩
    rcases int_cases x with q | ⟨j, hj, rfl⟩
    · exact absurd (.inl q) k
    · have h2 : 2 ≤ j := by
        by_cases c0 : j = 0
        · exact absurd (by rw [c0]; rfl) q1
        · by_cases c1 : j = 1
          · exact absurd (by rw [c1]; rfl) q2
          · omega
      exact absurd (.inr (ult (a := 1) (by omega))) k
  have main : ∀ I1 A1 r, r.length ≤ 24 → (∃ b, bu I1 A1 1010 b) → bu I1 A1 1008 r → fx sS sT I A I1 A1 → (x = 0 ∧ r = fgs w ∨ x = 1 ∧ r = sds w) → ev_Bi (d + 1) 109 66 [some (.ref 1000), some (.int x), some (.int (nI i))] I1 A1 (md (d + 1) N xs 176 [some (.ref 1033), some (.int x), some (.int (nI i))]) := fun I1 A1 r hr24 hb1 u1 f1 hx => by
    obtain ⟨b, b1⟩ := hb1
    have hmw1 : mw I1 A1 ws := hmw.fx f1 (by decide) (by decide) (by decide)
    refine t_S_key_66 _ _ (c_size isL1 u1 ⟨h11.fx f1 (by decide) (by decide), t_M_key_0 _ _ (c_strange (by omega) hmw1 ho (fun n => absurd ⟨i, w, rfl, hi⟩ n) (fun _ => z0 (c_beyond (fun k => ?_) (fun _ => z0 (c_take ho hi hmw1 (fun I2 A2 r2 f2 => ?_))))))⟩)
    · rcases hx with ⟨rfl, _⟩ | ⟨rfl, _⟩
      · rcases k with k | k
        · exact absurd k (by decide)
        · exact absurd k (by decide)
      · rcases k with k | k
        · exact absurd k (by decide)
        · exact absurd k (by decide)
    · have fin : ∀ I3 A3, ou I3 A3 r → fx yS yT I2 A2 I3 A3 → (nI r.length = nI r.length ∧ Sim N xs I3 A3) := fun I3 A3 u3 f3 => by
        refine ⟨rfl, t, ws, r, ?_⟩
        have hg : fx ((1008, 1) :: (1033, 3) :: (1010, 1) :: jS) (1009 :: 1035 :: 1011 :: jT) I A I3 A3 := (f1.sub (by decide) (by decide)).tr ((f2.sub (by decide) (by decide)).tr (f3.sub (by decide) (by decide)))
        exact Sm_sh h hg ((b1.fx f2 (by decide) (by decide)).fx f3 (by decide) (by decide)) ((u1.fx f2 (by decide) (by decide)).fx f3 (by decide) (by decide)) u3
      rcases hx with ⟨rfl, rfl⟩ | ⟨rfl, rfl⟩
      · exact ct rfl (c_keyByFigures (by omega) hk.2.2.1 hk.2.2.2.2 r2 (fun I3 A3 u3 f3 => fin _ _ u3 (f3.sub (by decide) (by decide))))
      · exact cf (by decide) (c_keyBySounds (by omega) hk.2.2.1 hk.2.2.2.1 r2 (fun I3 A3 u3 f3 => fin _ _ u3 f3))
  have s25 : (x = 0 ∨ x = 1) → ev_Bi (d + 1) 109 25 [some (.ref 1000), some (.int x), some (.int (nI i))] I A (md (d + 1) N xs 176 [some (.ref 1033), some (.int x), some (.int (nI i))]) := fun hx => by
    refine t_S_key_25 _ _ (c_copyTo (by omega) isL2 hcw ho hi ha (fun I1 A1 b1 f1 => ?_))
    have u1 := h.2.2.2.2.1.1.ot f1 isL2 isL1 (by decide)
    rcases hx with hx | hx
    · exact ct hx (c_layFigures (by omega) hk.2.2.1 hk.2.2.2.2 b1 u1 (fun I2 A2 b2 u2 f2 => main _ _ _ u2.2.1 ⟨_, b2⟩ u2 ((f1.sub (by decide) (by decide)).tr (f2.sub (by decide) (by decide))) (.inl ⟨hx, rfl⟩)))
    · exact cf (by rw [hx]; decide) (c_laySounds (by omega) hk.2.2.1 b1 u1 (fun v I2 A2 b2 u2 f2 => main _ _ _ u2.2.1 ⟨_, b2⟩ u2 ((f1.sub (by decide) (by decide)).tr f2) (.inr ⟨hx, rfl⟩)))
  exact ⟨fun q => s25 (.inl q), fun q1 => ⟨fun q => s25 (.inr q), fun q2 => out q1 q2⟩⟩
end CTR

/-! STRINGS AND LETTERS: contracts -/
section CTR
variable {d : Nat} {I A : Nat → Nat → Int32} {K : Int32 → (Nat → Nat → Int32) → (Nat → Nat → Int32) → Prop} {V : (Nat → Nat → Int32) → (Nat → Nat → Int32) → Prop} {L : Nat} {w : List Int32}
theorem of_val {x : Nat} (hx : x < 110) : x < 1000 ∧ ev_of x 1280 = some (.ref (200 + x)) := ⟨by omega, by simp [ev_of, hx]⟩
theorem of_cod {x : Nat} (hx : x < 110) : x < 1000 ∧ ev_of x 1281 = some (.int 0) := ⟨by omega, by simp [ev_of, hx]⟩
theorem oa_txt (σ : ev_M) {x : Nat} (hx : x < 110) : ev_len σ (200 + x) = some (3, (tx x).length) ∧ ∀ j, ev_get σ (200 + x) j = .int ((tx x).getD j 0) := by
  have h : ev_oa σ (200 + x) = some (3, (tx x).length, fun j => .int ((tx x).getD j 0)) := by
    unfold ev_oa
    rw [if_neg (by omega), if_neg (by omega), if_neg (by omega), if_pos (by omega), show 200 + x - 200 = x by omega]
  refine ⟨?_, fun j => ?_⟩
  · unfold ev_len
    rw [if_pos (by omega), h]
  · unfold ev_get
    rw [if_pos (by omega), h]
theorem shr0 (x : Int32) : x >>> ((0 : Int32) &&& 31) = x := by
  have : ((0 : Int32) &&& 31) = 0 := by decide
  rw [this]
  exact Int32.shiftRight_zero
set_option maxRecDepth 100000 in
theorem c_length (hd : 1 ≤ d) {x : Nat} (hx : x < 110) (h : K (nI (tx x).length) I A) : ev_Bi d 183 0 [some (.ref x)] I A K := by
  obtain _ | d := d
  · omega
  refine t_J_length_0 x (200 + x) (of_val hx) ?_
  refine ev_T.step (k' := 5) (ls' := [some (.ref x)]) (st' := [.int (nI (tx x).length)]) (σ' := (1057, 55, I, A)) rfl (by simp only [ev_step, ev_r, (oa_txt (1057, 55, I, A) hx).1]; rfl) ?_
  refine ev_T.adv (k' := 6) (ls' := [some (.ref x)]) (st' := [.ref x, .int (nI (tx x).length)]) (σ' := (1057, 55, I, A)) 1 rfl ?_
  refine ev_T.calli (m' := 185) (as := [.ref x]) (r := [.int (nI (tx x).length)]) (K' := fun z I' A' => z = 0 ∧ I' = I ∧ A' = A) rfl (ev_scall0 hx rfl) rfl (t_J_coder_0 x 0 (of_cod hx) ⟨rfl, rfl, rfl, rfl⟩) ?_
  rintro z I' A' ⟨rfl, rfl, rfl⟩
  refine ev_T.adv (k' := 10) (ls' := [some (.ref x)]) (st' := [.int (nI (tx x).length >>> ((0 : Int32) &&& 31))]) (σ' := (1057, 55, I', A')) 1 rfl ?_
  rw [shr0]
  exact ev_T.reti rfl rfl h
set_option maxRecDepth 100000 in
theorem c_charAt (hd : 4 ≤ d) {x i : Nat} (hx : x < 110) (hi : i < (tx x).length) (h : K ((tx x).getD i 0) I A) : ev_Bi d 184 0 [some (.ref x), some (.int (nI i))] I A K := by
  obtain ⟨d, rfl⟩ : ∃ e, d = e + 4 := ⟨d - 4, by omega⟩
  have hl := tx_len x
  have hm := tx_mem (getD_mem hi)
  refine t_J_charAt_0 x (nI i) (200 + x) (200 + x) hx (of_val hx) (of_val hx) ?_
  refine t_J_isLatin1_0 x 0 (of_cod hx) ⟨fun _ => ⟨fun c => absurd c (by decide), fun _ => ?_⟩, fun c => absurd rfl c⟩
  refine t_J1_charAt_0 (200 + x) (nI i) ?_
  refine ev_T.step (k' := 3) (ls' := [some (.ref (200 + x)), some (.int (nI i))]) (st' := [.int (nI (tx x).length), .int (nI i)]) (σ' := (1057, 55, I, A)) rfl (by simp only [ev_step, ev_r, (oa_txt (1057, 55, I, A) hx).1]; rfl) ?_
  refine ev_T.callv (m' := 187) (as := [.int (nI i), .int (nI (tx x).length)]) (r := []) (K' := fun I' A' => I' = I ∧ A' = A) rfl rfl rfl (t_J_checkIndex_0 _ _ (t_J3_checkIndex_0 _ _ _ ⟨fun c => absurd c (nI_pos (by omega)), fun _ => ⟨fun _ => ⟨rfl, rfl⟩, fun c => absurd (nI_lt hi (by omega)) c⟩⟩)) ?_
  rintro I' A' ⟨rfl, rfl⟩
  refine ev_T.adv (k' := 8) (ls' := [some (.ref (200 + x)), some (.int (nI i))]) (st' := [.int (nI i), .ref (200 + x)]) (σ' := (1057, 55, I', A')) 2 rfl ?_
  refine ev_T.zald (v := .int ((tx x).getD i 0)) (n := (tx x).length) rfl (vp_in_nI hi (by omega)) (by rw [if_pos (by omega)]; exact (oa_txt _ hx).1) (by rw [(oa_txt _ hx).2, nI_clamp (by omega)]) ?_
  refine ev_T.adv (k' := 14) (ls' := [some (.ref (200 + x)), some (.int (nI i))]) (st' := [.int (ev_i2c ((tx x).getD i 0 &&& 255))]) (σ' := (1057, 55, I', A')) 3 rfl ?_
  rw [hm.1]
  exact ev_T.retz rfl rfl hm.2 ⟨hm.2, h⟩
theorem c_size (hL : ev_isL L) (hb : bu I A L w) (h : K (nI w.length) I A) : ev_Bi d 30 0 [some (.ref L)] I A K :=
  t_L_size_0 hL (by rw [hb.1]; exact h)
theorem c_at (hL : ev_isL L) (hb : bu I A L w) {i : Nat} (hi : i < 2147483648) (h : K (w.getD i 0) I A) : ev_Bi d 31 0 [some (.ref L), some (.int (nI i))] I A K := by
  obtain ⟨h1, h2, h3, h4⟩ := hb
  refine t_L_at_0 hL _ (cf npo ?_)
  rw [h1]
  by_cases c : i < w.length
  · refine cf (nle c) ⟨vin (by omega), ?_⟩
    rw [ncl, h3 i c]
    exact ⟨h4 _ (getD_mem c), h⟩
  · refine ct (ule (by omega)) ?_
    rw [getD_out (by omega)] at h
    exact h
theorem c_at_neg (hL : ev_isL L) {x : Int32} (hx : x < 0) (h : K 0 I A) : ev_Bi d 31 0 [some (.ref L), some (.int x)] I A K :=
  t_L_at_0 hL _ (ct hx h)
theorem c_put (hL : ev_isL L) (hb : bu I A L w) {i : Nat} (hi : i < 2147483648) {c : Int32} (hc : ev_fit 3 c = true) (h : ∀ I' A', bu I' A' L (w.set i c) → fr L I A I' A' → V I' A') : ev_Bv d 32 0 [some (.ref L), some (.int (nI i)), some (.int c)] I A V := by
  obtain ⟨h1, h2, h3, h4⟩ := hb
  refine t_L_put_0 hL _ _ (cf npo ?_)
  rw [h1]
  by_cases g : i < w.length
  · refine cf (nle g) ⟨vin (by omega), ?_⟩
    rw [ncl, ev_fit3_nar hc]
    refine h _ _ ⟨by rw [h1, List.length_set], by rw [List.length_set]; exact h2, fun j hj => ?_, fun b hb => ?_⟩ fr.au
    · rw [List.length_set] at hj
      rw [ev_upd_at, getD_set hj]
      by_cases e : j = i
      · rw [if_pos e, if_pos e]
      · rw [if_neg e, if_neg e, h3 j hj]
    · rcases List.mem_or_eq_of_mem_set hb with m | rfl
      · exact h4 _ m
      · exact hc
  · refine ct (ule (by omega)) ?_
    refine h _ _ ?_ fr.rf
    rw [List.set_eq_of_length_le (by omega)]
    exact ⟨h1, h2, h3, h4⟩
theorem c_add (hL : ev_isL L) (hb : bu I A L w) (hl : w.length < 24) {c : Int32} (hc : ev_fit 3 c = true) (h : ∀ I' A', bu I' A' L (w ++ [c]) → fr L I A I' A' → V I' A') : ev_Bv d 33 0 [some (.ref L), some (.int c)] I A V := by
  obtain ⟨h1, h2, h3, h4⟩ := hb
  refine t_L_add_0 hL _ ?_
  rw [h1]
  refine cf (nle (a := 24) hl) ⟨vin (by omega), ?_⟩
  rw [ncl, ev_fit3_nar hc, nI_1]
  refine h _ _ ⟨by rw [ev_upd_eq, List.length_append]; rfl, by rw [List.length_append]; simp; omega, fun j hj => ?_, fun b hb => ?_⟩ (fr.tr fr.iu fr.au)
  · rw [List.length_append] at hj
    simp only [List.length_singleton] at hj
    rw [ev_upd_at, getD_app]
    by_cases e : j = w.length
    · subst e
      simp
    · rw [if_neg e, if_pos (by omega), h3 j (by omega)]
  · rcases List.mem_append.mp hb with m | m
    · exact h4 _ m
    · rw [List.mem_singleton.mp m]
      exact hc
theorem c_add_full (hL : ev_isL L) (hb : bu I A L w) (hl : 24 ≤ w.length) {c : Int32} (h : V I A) : ev_Bv d 33 0 [some (.ref L), some (.int c)] I A V := by
  refine t_L_add_0 hL _ ?_
  rw [hb.1]
  exact ct (ule (a := 24) hl (by have := hb.2.1; omega)) h
theorem c_shorten (hL : ev_isL L) (hb : bu I A L w) {i : Nat} (hi : i < 2147483648) (h : ∀ I' A', bu I' A' L (w.take i) → fr L I A I' A' → V I' A') : ev_Bv d 34 0 [some (.ref L), some (.int (nI i))] I A V := by
  obtain ⟨h1, h2, h3, h4⟩ := hb
  refine t_L_shorten_0 hL _ (cf npo ?_)
  rw [h1]
  by_cases g : i < w.length
  · refine cf (nle g) ?_
    refine h _ _ ⟨by rw [ev_upd_eq, List.length_take, Nat.min_eq_left (by omega)], by rw [List.length_take]; omega, fun j hj => ?_, fun b hb => h4 _ (List.mem_of_mem_take hb)⟩ fr.iu
    rw [List.length_take] at hj
    rw [getD_take (by omega), h3 j (by omega)]
  · refine ct (ule (by omega)) (h _ _ ?_ fr.rf)
    rw [List.take_of_length_le (by omega)]
    exact ⟨h1, h2, h3, h4⟩
theorem c_shorten0 (hL : ev_isL L) (hb : bu I A L w) (h : ∀ I' A', bu I' A' L [] → fr L I A I' A' → V I' A') : ev_Bv d 34 0 [some (.ref L), some (.int 0)] I A V :=
  c_shorten (i := 0) hL hb (by omega) (fun I' A' => by rw [List.take_zero]; exact h I' A')
theorem c_hasAt_l (hd : 5 ≤ d) (hL : ev_isL L) (hb : bu I A L w) {x f : Nat} (hx : x < 110) (hf : f + (tx x).length ≤ w.length) (h1 : sa w f (tx x) → K 1 I A) (h0 : ¬ sa w f (tx x) → K 0 I A) : ∀ n j, j + n = (tx x).length → (∀ i, i < j → w.getD (f + i) 0 = (tx x).getD i 0) → ev_Bi d 35 21 [some (.ref L), some (.int (nI f)), some (.ref x), some (.int (nI j))] I A K := by
  obtain _ | d := d
  · omega
  have hl := tx_len x
  have h2 := hb.2.1
  intro n
  induction n with
  | zero =>
    intro j hj hh
    refine t_L_hasAt_21 hL _ _ _ hx (c_length (by omega) hx (ct (ule (by omega)) (h1 ?_)))
    by_cases e : tx x = []
    · rw [e]
      exact sa_nil
    · exact (sa_iff e).mpr ⟨hf, fun i hi => hh i (by omega)⟩
  | succ n ih =>
    intro j hj hh
    refine t_L_hasAt_21 hL _ _ _ hx (c_length (by omega) hx (cf (nle (by omega)) ⟨?_, ?_⟩))
    · rw [nI_add]
      exact vin (by omega)
    · refine c_charAt (by omega) hx (by omega) ?_
      rw [nI_add, ncl, hb.2.2.1 _ (by omega), nI_1]
      refine ⟨fun e => ih (j + 1) (by omega) (fun i hi => ?_), fun e => h0 (sa_not (by intro c; rw [c] at hj; simp at hj) (by omega) e)⟩
      by_cases c : i = j
      · rw [c]
        exact e
      · exact hh i (by omega)
theorem c_hasAt (hd : 5 ≤ d) (hL : ev_isL L) (hb : bu I A L w) {x f : Nat} (hx : x < 110) (hf : f < 1000000000) (hs : tx x ≠ []) (h1 : sa w f (tx x) → K 1 I A) (h0 : ¬ sa w f (tx x) → K 0 I A) : ev_Bi d 35 0 [some (.ref L), some (.int (nI f)), some (.ref x), none] I A K := by
  have hl := tx_len x
  obtain ⟨e, rfl⟩ : ∃ e, d = e + 1 := ⟨d - 1, by omega⟩
  refine t_L_hasAt_0 hL _ _ hx (cf npo (c_length (by omega) hx ?_))
  have h2 := hb.2.1
  rw [hb.1, nI_add]
  by_cases c : f + (tx x).length ≤ w.length
  · refine ct (ule c) ?_
    exact c_hasAt_l hd hL hb hx c h1 h0 (tx x).length 0 (by omega) (fun i hi => absurd hi (by omega))
  · exact cf (nle (by omega)) (h0 (sa_len hs (by omega)))
theorem c_ends (hd : 6 ≤ d) (hL : ev_isL L) (hb : bu I A L w) {x : Nat} (hx : x < 110) (hs : tx x ≠ []) (h1 : tx x <:+ w → K 1 I A) (h0 : ¬ tx x <:+ w → K 0 I A) : ev_Bi d 36 0 [some (.ref L), some (.ref x)] I A K := by
  have hl := tx_len x
  have h2 := hb.2.1
  obtain ⟨e, rfl⟩ : ∃ e, d = e + 1 := ⟨d - 1, by omega⟩
  refine t_L_ends_0 hL _ hx (c_length (by omega) hx ?_)
  rw [hb.1]
  by_cases c : (tx x).length ≤ w.length
  · rw [nI_sub c]
    exact c_hasAt (by omega) hL hb hx (by omega) hs (fun g => ⟨by decide, h1 (sf_iff.mpr ⟨c, g⟩)⟩) (fun g => ⟨by decide, h0 (fun k => g (sf_iff.mp k).2)⟩)
  · obtain ⟨e, rfl⟩ : ∃ e', e = e' + 1 := ⟨e - 1, by omega⟩
    exact t_L_hasAt_0 hL _ _ hx (ct (nI_subneg (by omega) (by omega)) ⟨by decide, h0 (fun k => c k.length_le)⟩)
theorem c_changeEnd_l (hd : 5 ≤ d) (hL : ev_isL L) {x y : Nat} (hy : y < 110) {u : List Int32} (hu : u.length + (tx y).length ≤ 24) {I0 A0 : Nat → Nat → Int32} (h : ∀ I' A', bu I' A' L (u ++ tx y) → fr L I0 A0 I' A' → K 1 I' A') : ∀ n j I A, j + n = (tx y).length → bu I A L (u ++ (tx y).take j) → fr L I0 A0 I A → ev_Bi d 38 25 [some (.ref L), some (.ref x), some (.ref y), some (.int (nI j))] I A K := by
  obtain ⟨e, rfl⟩ : ∃ e, d = e + 1 := ⟨d - 1, by omega⟩
  have hl := tx_len y
  intro n
  induction n with
  | zero =>
    intro j I A hj hb hf
    refine t_L_changeEnd_25 hL _ _ _ hy (c_length (by omega) hy (ct (ule (by omega)) (h _ _ ?_ hf)))
    rw [List.take_of_length_le (by omega)] at hb
    exact hb
  | succ n ih =>
    intro j I A hj hb hf
    refine t_L_changeEnd_25 hL _ _ _ hy (c_length (by omega) hy (cf (nle (by omega)) (c_charAt (by omega) hy (by omega) ?_)))
    have hjl : j < (tx y).length := by omega
    refine c_add hL hb (by rw [List.length_append, List.length_take]; omega) (tx_mem (getD_mem hjl)).2 (fun I' A' hb' hf' => ?_)
    rw [nI_1]
    refine ih (j + 1) I' A' (by omega) ?_ (hf.tr hf')
    have : u ++ (tx y).take (j + 1) = u ++ (tx y).take j ++ [(tx y).getD j 0] := by
      rw [List.append_assoc, List.take_add_one, List.getD_eq_getElem?_getD, List.getElem?_eq_getElem hjl]
      rfl
    rw [this]
    exact hb'
theorem c_changeEnd (hd : 7 ≤ d) (hL : ev_isL L) (hb : bu I A L w) {x y : Nat} (hx : x < 110) (hy : y < 110) (hs : tx x ≠ []) (hl : w.length - (tx x).length + (tx y).length ≤ 24) (h1 : tx x <:+ w → ∀ I' A', bu I' A' L (w.take (w.length - (tx x).length) ++ tx y) → fr L I A I' A' → K 1 I' A') (h0 : ¬ tx x <:+ w → K 0 I A) : ev_Bi d 38 0 [some (.ref L), some (.ref x), some (.ref y), none] I A K := by
  obtain ⟨e, rfl⟩ : ∃ e, d = e + 1 := ⟨d - 1, by omega⟩
  refine t_L_changeEnd_0 hL _ _ hx (c_ends (by omega) hL hb hx hs (fun g => z1 ?_) (fun g => z0 (h0 g)))
  have hle := g.length_le
  refine c_length (by omega) hx ?_
  rw [hb.1, nI_sub hle]
  have h2 := hb.2.1
  refine c_shorten hL hb (by omega) (fun I' A' hb' hf' => ?_)
  refine c_changeEnd_l (by omega) hL hy (by rw [List.length_take]; omega) (h1 g) (tx y).length 0 I' A' (by omega) ?_ hf'
  rw [List.take_zero, List.append_nil]
  exact hb'
theorem set_take {w : List Int32} {f j : Nat} {s : List Int32} (hf : f + s.length ≤ w.length) (hj : j < s.length) : (w.take f ++ s.take j ++ w.drop (f + j)).set (f + j) (s.getD j 0) = w.take f ++ s.take (j + 1) ++ w.drop (f + (j + 1)) := by
  refine lext (by simp; omega) (fun i hi => ?_)
  have hi' : i < w.length := by simp at hi; omega
  rw [getD_set (by simpa using hi)]
  simp only [getD_app, List.length_append, List.length_take]
  rw [Nat.min_eq_left (by omega), Nat.min_eq_left (by omega), Nat.min_eq_left (by omega)]
  by_cases c1 : i < f
  · rw [if_neg (by omega), if_pos (by omega), if_pos c1, if_pos (by omega), if_pos c1]
  · by_cases c2 : i < f + j
    · rw [if_neg (by omega), if_pos c2, if_neg c1, if_pos (by omega), if_neg c1, getD_take (by omega), getD_take (by omega)]
    · by_cases c3 : i = f + j
      · rw [if_pos c3, if_pos (by omega), if_neg c1, getD_take (by omega), c3]
        congr 1
        omega
      · rw [if_neg c3, if_neg c2, if_neg (by omega), getD_drop, getD_drop]
        congr 1
        omega
theorem c_changeAt_l (hd : 5 ≤ d) (hL : ev_isL L) {x y f : Nat} (hy : y < 110) (hf : f + (tx y).length ≤ w.length) {I0 A0 : Nat → Nat → Int32} (h : ∀ I' A', bu I' A' L (w.take f ++ tx y ++ w.drop (f + (tx y).length)) → fr L I0 A0 I' A' → K 1 I' A') (hw : w.length ≤ 24) : ∀ n j I A, j + n = (tx y).length → bu I A L (w.take f ++ (tx y).take j ++ w.drop (f + j)) → fr L I0 A0 I A → ev_Bi d 37 14 [some (.ref L), some (.int (nI f)), some (.ref x), some (.ref y), some (.int (nI j))] I A K := by
  obtain ⟨e, rfl⟩ : ∃ e, d = e + 1 := ⟨d - 1, by omega⟩
  have hl := tx_len y
  intro n
  induction n with
  | zero =>
    intro j I A hj hb hfr
    refine t_L_changeAt_14 hL _ _ _ _ hy (c_length (by omega) hy (ct (ule (by omega)) (h _ _ ?_ hfr)))
    rw [List.take_of_length_le (l := tx y) (by omega)] at hb
    have : j = (tx y).length := by omega
    rw [this] at hb
    exact hb
  | succ n ih =>
    intro j I A hj hb hfr
    refine t_L_changeAt_14 hL _ _ _ _ hy (c_length (by omega) hy (cf (nle (by omega)) (c_charAt (by omega) hy (by omega) ?_)))
    have hjl : j < (tx y).length := by omega
    rw [nI_add]
    refine c_put hL hb (by omega) (tx_mem (getD_mem hjl)).2 (fun I' A' hb' hf' => ?_)
    rw [nI_1]
    refine ih (j + 1) I' A' (by omega) ?_ (hfr.tr hf')
    rw [← set_take hf hjl]
    exact hb'
theorem c_changeAt (hd : 6 ≤ d) (hL : ev_isL L) (hb : bu I A L w) {x y f : Nat} (hx : x < 110) (hy : y < 110) (hs : tx x ≠ []) (hl : (tx y).length = (tx x).length) (hf : f < 1000000000) (h1 : sa w f (tx x) → ∀ I' A', bu I' A' L (w.take f ++ tx y ++ w.drop (f + (tx y).length)) → fr L I A I' A' → K 1 I' A') (h0 : ¬ sa w f (tx x) → K 0 I A) : ev_Bi d 37 0 [some (.ref L), some (.int (nI f)), some (.ref x), some (.ref y), none] I A K := by
  obtain ⟨e, rfl⟩ : ∃ e, d = e + 1 := ⟨d - 1, by omega⟩
  refine t_L_changeAt_0 hL _ _ _ (c_hasAt (by omega) hL hb hx hf hs (fun g => z1 ?_) (fun g => z0 (h0 g)))
  refine c_changeAt_l (by omega) hL hy (by rw [hl]; exact ((sa_iff hs).mp g).1) (h1 g) hb.2.1 (tx y).length 0 I A (by omega) ?_ fr.rf
  rw [List.take_zero, List.append_nil, Nat.add_zero, List.take_append_drop]
  exact hb
theorem c_isVowel {x : Int32} (h1 : (x = 97 ∨ x = 101 ∨ x = 105 ∨ x = 111 ∨ x = 117) → K 1 I A) (h0 : ¬ (x = 97 ∨ x = 101 ∨ x = 105 ∨ x = 111 ∨ x = 117) → K 0 I A) : ev_Bi d 117 0 [some (.int x)] I A K :=
  t_S_isVowel_0 x ⟨fun c => h1 (.inl c), fun c1 => ⟨fun c => h1 (.inr (.inl c)), fun c2 => ⟨fun c => h1 (.inr (.inr (.inl c))), fun c3 => ⟨fun c => h1 (.inr (.inr (.inr (.inl c)))), fun c4 => ⟨fun c => h1 (.inr (.inr (.inr (.inr c)))), fun c5 => h0 (fun h => by rcases h with h | h | h | h | h <;> contradiction)⟩⟩⟩⟩⟩
theorem c_isVowelM {x : Int32} (h1 : (x = 97 ∨ x = 101 ∨ x = 105 ∨ x = 111 ∨ x = 117) → K 1 I A) (h0 : ¬ (x = 97 ∨ x = 101 ∨ x = 105 ∨ x = 111 ∨ x = 117) → K 0 I A) : ev_Bi d 132 0 [some (.int x)] I A K :=
  t_M_isVowel_0 x ⟨fun c => h1 (.inl c), fun c1 => ⟨fun c => h1 (.inr (.inl c)), fun c2 => ⟨fun c => h1 (.inr (.inr (.inl c))), fun c3 => ⟨fun c => h1 (.inr (.inr (.inr (.inl c)))), fun c4 => ⟨fun c => h1 (.inr (.inr (.inr (.inr c)))), fun c5 => h0 (fun h => by rcases h with h | h | h | h | h <;> contradiction)⟩⟩⟩⟩⟩
end CTR

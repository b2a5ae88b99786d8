/-! STEMS -/
def sto (s : Nat) (m : Bool) (p : Option (List Int32)) (rs : List HR) (w : List Int32) : List Int32 :=
  if s = 0 ∨ m = true then w else match p with
    | some v => v
    | none => if s = 1 then plu w else if s = 2 then por 7 w else hsk rs 16 true w
abbrev prr (ws : List (List Int32)) (x : Int32) (p : Option (List Int32)) : Prop := (x = -5 ∧ p = none) ∨ ∃ c v, x = nI c ∧ ws[c]? = some v ∧ p = some v
theorem nk.prr {ws : List (List Int32)} {x : Int32} (h : nk ws x) : ∃ p, prr ws x p := by
  rcases h with h | ⟨c, v, h1, h2⟩
  · exact ⟨none, .inl ⟨h, rfl⟩⟩
  · exact ⟨some v, .inr ⟨c, v, h1, h2, rfl⟩⟩
abbrev lw (w : List Int32) : Prop := ∀ b ∈ w, lo b
abbrev okw (w : List Int32) : Prop := 1 ≤ w.length ∧ w.length ≤ 24 ∧ lw w
theorem lw_take {w : List Int32} {n : Nat} (h : lw w) : lw (w.take n) := fun b hb => h b (List.mem_of_mem_take hb)
theorem lw_app {u v : List Int32} (h : lw u) (g : lw v) : lw (u ++ v) := fun b hb => (List.mem_append.mp hb).elim (h b) (g b)
theorem okw_take {w : List Int32} {n : Nat} (h : okw w) (h1 : 1 ≤ n) (h2 : n ≤ w.length) : okw (w.take n) := by
  have := h.2.1
  refine ⟨?_, ?_, lw_take h.2.2⟩
  · rw [List.length_take]
    omega
  · rw [List.length_take]
    omega
set_option maxRecDepth 100000 in
theorem en_lo : ∀ q ∈ ev_ens, ∀ b ∈ tx q.2.2.2, lo b := by decide +kernel
theorem ers_lo {s : Int32} {j : Nat} {r : Row} (h : r ∈ ers s j) : lw r.2.1 := by
  unfold ers at h
  obtain ⟨q, hq, rfl⟩ := List.mem_map.mp h
  exact en_lo q (List.mem_of_mem_take (List.mem_filter.mp hq).1)
theorem mnd_ok {u : List Int32} (h1 : 1 ≤ u.length) (h2 : u.length < 24) (h3 : lw u) : okw (mnd u) := by
  have he : okw (u ++ [101]) := by
    refine ⟨by simp, by simp; omega, lw_app h3 (fun b hb => ?_)⟩
    rw [List.mem_singleton] at hb
    rw [hb]
    decide
  unfold mnd
  split
  · exact he
  split
  · rename_i _ h
    exact okw_take ⟨h1, by omega, h3⟩ (by have := h.1.1; omega) (by omega)
  split
  · exact he
  · exact ⟨h1, by omega, h3⟩
theorem lg_mem {R : List Row} {w : List Int32} {r : Row} (h : lg R w = some r) : r ∈ R := by
  have : ∀ (R : List Row) (acc : Option Row) (S : List Row), (∀ a, acc = some a → a ∈ S) → (∀ a ∈ R, a ∈ S) → ∀ a, R.foldl (s1 w) acc = some a → a ∈ S := by
    intro R
    induction R with
    | nil => intro acc S ha _ a e; exact ha a e
    | cons r R ihR =>
      intro acc S ha hR a e
      refine ihR _ S (fun b hb => ?_) (fun b hb => hR b (List.mem_cons_of_mem _ hb)) a e
      have hr := hR r (List.mem_cons_self ..)
      unfold s1 at hb
      split at hb
      · split at hb
        · rw [Option.some.injEq] at hb
          rw [← hb]
          exact hr
        · rename_i a'
          split at hb
          · rw [Option.some.injEq] at hb
            rw [← hb]
            exact hr
          · rw [Option.some.injEq] at hb
            rw [← hb]
            exact ha _ rfl
      · exact ha b hb
  exact this R none R (by simp) (fun a ha => ha) r h
theorem pst_ok {k : Nat} {w : List Int32} (hk : k ≤ 7) (h : okw w) (h0 : k = 0 → 3 ≤ w.length) : okw (pst k w) := by
  obtain ⟨g1, g2, g3⟩ := h
  have tk : ∀ n, 1 ≤ n → n ≤ w.length → okw (w.take n) := fun n a b => okw_take ⟨g1, g2, g3⟩ a b
  by_cases e0 : k = 0
  · subst e0
    have := h0 rfl
    rw [p0]
    split
    · exact tk _ (by omega) (by omega)
    split
    · exact tk _ (by omega) (by omega)
    · exact ⟨g1, g2, g3⟩
  by_cases e1 : k = 1
  · subst e1
    rw [p1]
    split
    · rename_i c
      have : 3 ≤ w.length := c.length_le
      split
      · exact tk _ (by omega) (by omega)
      · exact ⟨g1, g2, g3⟩
    split
    · rename_i c
      have : 2 ≤ w.length := c.length_le
      split
      · rename_i q
        obtain ⟨j, hj, _⟩ := q
        refine mnd_ok ?_ ?_ (lw_take g3)
        · rw [List.length_take]
          omega
        · rw [List.length_take]
          omega
      · exact ⟨g1, g2, g3⟩
    split
    · rename_i c
      have : 3 ≤ w.length := c.length_le
      split
      · rename_i q
        obtain ⟨j, hj, _⟩ := q
        refine mnd_ok ?_ ?_ (lw_take g3)
        · rw [List.length_take]
          omega
        · rw [List.length_take]
          omega
      · exact ⟨g1, g2, g3⟩
    · exact ⟨g1, g2, g3⟩
  by_cases e2 : k = 2
  · subst e2
    rw [pst, if_pos rfl]
    split
    · refine ⟨by rw [List.length_set]; exact g1, by rw [List.length_set]; exact g2, fun b hb => ?_⟩
      rcases List.mem_or_eq_of_mem_set hb with hb | hb
      · exact g3 b hb
      · rw [hb]
        decide
    · exact ⟨g1, g2, g3⟩
  by_cases e6 : k = 6
  · subst e6
    rw [p6]
    split
    · split
      · rename_i q
        have := ms_lt (w := w) (n := w.length - 1)
        refine tk _ ?_ (by omega)
        rcases q with q | q
        · omega
        · have := q.1
          omega
      · exact ⟨g1, g2, g3⟩
    · exact ⟨g1, g2, g3⟩
  by_cases e7 : k = 7
  · subst e7
    rw [pst, if_neg (by decide), if_pos rfl]
    split
    · rename_i q
      have : 2 ≤ w.length := q.1.length_le
      exact tk _ (by omega) (by omega)
    · exact ⟨g1, g2, g3⟩
  have hs : k = 3 ∨ k = 4 ∨ k = 5 := by omega
  rw [pst, if_neg (by omega), if_neg (by omega)]
  split
  · exact ⟨g1, g2, g3⟩
  · rename_i r g
    have hle := (lg_sf g).length_le
    have hm := lg_mem g
    obtain ⟨i, hi⟩ := List.getElem?_of_mem hm
    obtain ⟨t1, t2, t3, t4, t5, t6, t7, t8, t9⟩ := tb_at hs hi
    have hpos : 0 < r.1.length := List.length_pos_iff.mpr t3
    rw [ptl]
    split
    · rename_i q
      have hms := ms_lt (w := w) (n := w.length - r.1.length)
      have hn : 0 < ms w (w.length - r.1.length) := by
        by_cases c5 : k < 5
        · rw [(t8 c5).2] at q
          exact hl1.mp q
        · have e := (t9 (by omega)).2
          by_cases c11 : i = 11
          · rw [if_pos c11] at e
            rw [e] at q
            have := (hl4.mp q).1
            omega
          · rw [if_neg c11] at e
            rw [e] at q
            have := hl2.mp q
            omega
      rw [if_neg (by rintro (k | k); exact t6 k; exact t7 k)]
      refine ⟨?_, ?_, lw_app (lw_take g3) (ers_lo hm)⟩
      · rw [List.length_append, List.length_take]
        omega
      · rw [List.length_append, List.length_take]
        omega
    · exact ⟨g1, g2, g3⟩
theorem por_ok {last : Nat} {w : List Int32} (hk : last ≤ 7) (h : okw w) : okw (por last w) := by
  unfold por
  split
  · rename_i c
    have : ∀ n, n ≤ 8 → okw (prs w n) := by
      intro n
      induction n with
      | zero => intro _; exact h
      | succ n ih =>
        intro hn
        rw [prs]
        refine pst_ok (by omega) (ih (by omega)) (fun e => ?_)
        subst e
        exact c
    exact this _ (by omega)
  · exact h
theorem plu_ok {w : List Int32} (h : okw w) : okw (plu w) := by
  have tk : ∀ n, 1 ≤ n → n ≤ w.length → okw (w.take n) := fun n a b => okw_take h a b
  unfold plu
  split
  · exact h
  rename_i h1
  have h2 := h.1
  have h3 := h.2.1
  split
  · rename_i c
    have : 3 ≤ w.length := c.1.length_le
    refine ⟨by simp, ?_, lw_app (lw_take h.2.2) (fun b hb => ?_)⟩
    · rw [List.length_append, List.length_take]
      show _ + 1 ≤ 24
      omega
    · rw [List.mem_singleton] at hb
      rw [hb]
      decide
  split
  · exact tk _ (by omega) (by omega)
  split
  · exact tk _ (by omega) (by omega)
  · exact h
theorem hsk_ok {rs : List HR} (hr : ∀ q ∈ rs, lw q.2.2.2.1) : ∀ n b w, okw w → okw (hsk rs n b w)
  | 0, _, w, h => h
  | n + 1, b, w, h => by
    rw [hsk]
    split
    · exact h
    · rename_i q g
      obtain ⟨⟨_, _, hgl, hg2, hg3, _⟩, hm⟩ := hfd_hit g
      have hk : okw (hap w q) := by
        refine ⟨?_, ?_, lw_app (lw_take h.2.2) (hr q hm)⟩
        · rw [hap, List.length_append, List.length_take]
          omega
        · rw [hap, List.length_append, List.length_take]
          omega
      split
      · exact hsk_ok hr n false _ hk
      · exact hk
theorem ok_okw {ws : List (List Int32)} {i : Nat} {w : List Int32} (ho : ok ws) (h : ws[i]? = some w) : okw w := (ho.at h).2.2
theorem hcr_lw {I A : Nat → Nat → Int32} {ws : List (List Int32)} {rs : List HR} (ho : ok ws) (h : hcr I A ws rs) : ∀ q ∈ rs, lw q.2.2.2.1 := fun q hq => by
  obtain ⟨i, hi⟩ := List.getElem?_of_mem hq
  obtain ⟨_, _, _, _, cc, _⟩ := h.2.2 i q hi
  rcases cc with ⟨_, c⟩ | ⟨k, _, c⟩
  · rw [c]
    exact fun b hb => absurd hb (by simp)
  · exact (ok_okw ho c).2.2
theorem sto_ok {s : Nat} {m : Bool} {p : Option (List Int32)} {rs : List HR} {w : List Int32} (h : okw w) (hp : ∀ v, p = some v → okw v) (hr : ∀ q ∈ rs, lw q.2.2.2.1) : okw (sto s m p rs w) := by
  unfold sto
  split
  · exact h
  split
  · exact hp _ rfl
  split
  · exact plu_ok h
  split
  · exact por_ok (by omega) h
  · exact hsk_ok hr _ _ _ h
section CTR
variable {d : Nat} {I A : Nat → Nat → Int32} {K : Int32 → (Nat → Nat → Int32) → (Nat → Nat → Int32) → Prop} {V : (Nat → Nat → Int32) → (Nat → Nat → Int32) → Prop} {L i : Nat} {N : Nat} {xs : Nat → Int32} {u w t o : List Int32} {ws : List (List Int32)} {rs : List HR} {m : Bool} {p : Option (List Int32)}
theorem c_layStem (hd : 10 ≤ d) {s : Nat} (hs : s ≤ 3) (hL : ev_isL L) (ho : ok ws) (hw : cw I A ws) (hc : hcr I A ws rs) (hb : bu I A L u) (hi : ws[i]? = some w) (hm : A 1007 (i * 3) = 0 ↔ m = false) (hp : prr ws (A 1006 i) p) (h : ∀ I' A', bu I' A' L (sto s m p rs w) → fr L I A I' A' → V I' A') : ev_Bv d 114 0 [some (.ref 1000), some (.int (nI s)), some (.int (nI i)), some (.ref L), none] I A V := by
  obtain ⟨d, rfl⟩ : ∃ e, d = e + 1 := ⟨d - 1, by omega⟩
  refine t_S_layStem_0 hL _ _ (c_copyTo (by omega) hL hw ho hi hb (fun I1 A1 b1 f1 => ?_))
  have hw1 := hw.fr f1 hL
  have hc1 := hc.fr f1 hL
  have hL' := hL
  unfold ev_isL at hL'
  have e7 : A1 1007 (i * 3 + 0) = A 1007 (i * 3) := f1.2 1007 (i * 3) (by simp; omega)
  have e6 : A1 1006 i = A 1006 i := f1.2 1006 i (by simp; omega)
  unfold sto at h
  by_cases c0 : s = 0
  · rw [if_pos (.inl c0)] at h
    exact ct (by rw [c0]; rfl) (h _ _ b1 f1)
  refine cf (neq (b := 0) c0) (c_isMarked (m := 0) (by omega) hw1 ho (by omega) hi (fun g => z1 (h _ _ ?_ f1)) (fun g => z0 ?_))
  · rw [if_pos]
    · exact b1
    · refine .inr ?_
      cases m with
      | true => rfl
      | false => exact absurd (by rw [e7]; exact hm.mpr rfl) g
  · rw [e7] at g
    rw [if_neg (by rw [hm.mp g]; rintro (k | k); exact c0 k; exact absurd k (by decide))] at h
    refine c_pairOf (by omega) hw1 ho hi ?_
    rw [e6]
    rcases hp with ⟨hp, rfl⟩ | ⟨c, v, hp, hv, rfl⟩
    · rw [hp]
      refine ct rfl ?_
      simp only at h
      by_cases c1 : s = 1
      · rw [if_pos c1] at h
        exact ct (by rw [c1]; rfl) (c_dropPlural (by omega) hL b1 (fun I2 A2 b2 f2 => h _ _ b2 (f1.tr f2)))
      rw [if_neg c1] at h
      refine cf (neq (b := 1) c1) ?_
      by_cases c2 : s = 2
      · rw [if_pos c2] at h
        exact ct (by rw [c2]; rfl) (c_run (last := 7) (by omega) hL b1 (by omega) (fun I2 A2 b2 f2 => h _ _ b2 (f1.tr f2)))
      rw [if_neg c2] at h
      exact cf (neq (b := 2) c2) (c_huskRun (by omega) hL ho hw1 hc1 b1 (fun I2 A2 b2 f2 => h _ _ b2 (f1.tr f2)))
    · have hkv := ho.at hv
      rw [hp]
      exact cf nm5 (c_copyTo (by omega) hL hw1 ho hv b1 (fun I2 A2 b2 f2 => h _ _ b2 (f1.tr f2)))
theorem c_stemOf (hd : 7 ≤ d) {s : Nat} (hs : s ≤ 3) (ho : ok ws) (hw : mw I A ws) (hc : hmr I A ws rs) (hr : rb I A w) (hi : ws[i]? = some u) (hm : (A 1038 i &&& 1) = 0 ↔ m = false) (hp : prr ws (A 1039 i) p) (h : ∀ I' A', rb I' A' (sto s m p rs w) → fq I A I' A' → V I' A') : ev_Bv d 155 0 [some (.ref 1033), some (.int (nI s)), some (.int (nI i))] I A V := by
  obtain ⟨d, rfl⟩ : ∃ e, d = e + 1 := ⟨d - 1, by omega⟩
  have hk := ho.at hi
  refine t_M_stemOf_0 _ _ ?_
  unfold sto at h
  by_cases c0 : s = 0
  · rw [if_pos (.inl c0)] at h
    exact ct (by rw [c0]; rfl) (h _ _ hr fx.rf)
  refine cf (neq (b := 0) c0) (cf npo ⟨vin (by omega), ?_⟩)
  rw [ncl]
  refine ⟨fun g => ?_, fun g => h _ _ ?_ fx.rf⟩
  · rw [if_neg (by rw [hm.mp g]; rintro (k | k); exact c0 k; exact absurd k (by decide))] at h
    refine t_M_stemOf_20 _ _ (cf npo ⟨vin (by omega), ?_⟩)
    rw [ncl]
    rcases hp with ⟨hp, rfl⟩ | ⟨c, v, hp, hv, rfl⟩
    · rw [hp]
      refine ct rfl (t_M_stemOf_48 _ _ ?_)
      simp only at h
      by_cases c1 : s = 1
      · rw [if_pos c1] at h
        exact ct (by rw [c1]; rfl) (c_plural (by omega) hr h)
      rw [if_neg c1] at h
      refine cf (neq (b := 1) c1) ?_
      by_cases c2 : s = 2
      · rw [if_pos c2] at h
        exact ct (by rw [c2]; rfl) (c_porter (last := 7) (by omega) (by omega) hr h)
      rw [if_neg c2] at h
      exact cf (neq (b := 2) c2) (c_husk (by omega) ho hw hc hr h)
    · have hkv := ho.at hv
      rw [hp]
      exact cf nm5 ⟨vin (by omega), c_take ho hv hw h⟩
  · rw [if_pos]
    · exact hr
    · refine .inr ?_
      cases m with
      | true => rfl
      | false => exact absurd (hm.mpr rfl) g
theorem c_isStemmer {x : Int32} (h1 : ∀ s : Nat, s ≤ 3 → x = nI s → K 1 I A) (h0 : (x < 0 ∨ 3 < x) → K 0 I A) : ev_Bi d 113 0 [some (.int x)] I A K := by
  refine t_S_isStemmer_0 _ ⟨fun c => h0 (.inl c), fun c => ⟨fun c' => h0 (.inr c'), fun c' => ?_⟩⟩
  rcases int_cases x with q | ⟨j, hj, rfl⟩
  · exact absurd q c
  · refine h1 j ?_ rfl
    by_cases q : j ≤ 3
    · exact q
    · exact absurd (ult (a := 3) (by omega)) c'
theorem bool_of {x : Int32} : ∃ m : Bool, (x = 0 ↔ m = false) := by
  by_cases c : x = 0
  · exact ⟨false, by simp [c]⟩
  · exact ⟨true, by simp [c]⟩
theorem u_stem (hd : 11 ≤ d) (h : Sm N xs I A t ws o) (x y : Int32) : ev_Bi d 98 0 [some (.ref 1000), some (.int x), some (.int y)] I A (md d N xs 156 [some (.ref 1033), some (.int x), some (.int y)]) := by
  obtain ⟨d, rfl⟩ : ∃ e, d = e + 1 := ⟨d - 1, by omega⟩
  have h11 := Sm_S11 h
  obtain ⟨hcw, hmw, ho, _⟩ := h.2.1
  refine t_S_stem_0 x y (c_knows hcw ho (fun c => z1 ?_) (fun c => z0 ⟨h11, t_M_stem_0 _ _ (c_strange (by omega) hmw ho (fun _ => z1 ⟨rfl, t, ws, o, h⟩) (fun n => absurd n c))⟩))
  obtain ⟨i, w, rfl, hi⟩ := c
  have hk := ho.at hi
  refine c_isStemmer (fun s hs e => z1 ?_) (fun c => z0 ⟨h11, t_M_stem_0 _ _ (c_strange (by omega) hmw ho (fun n => absurd ⟨i, w, rfl, hi⟩ n) (fun _ => z0 (c_beyond (fun _ => z1 ⟨rfl, t, ws, o, h⟩) (fun k => absurd c k))))⟩)
  subst e
  obtain ⟨r, h6⟩ := h.2.2.2.2.2.1
  obtain ⟨rs, hcr1, hmr1⟩ := h6.rows
  obtain ⟨h3a, h3b⟩ := h.2.2.1 i hk.2.1
  obtain ⟨p, hp⟩ := h3b.prr
  obtain ⟨m, hm⟩ := bool_of (x := A 1007 (i * 3))
  have hm2 : (A 1038 i &&& 1) = 0 ↔ m = false := Iff.trans (mark_get (m := 0) h.2.2.2.1 hk.2.1 (by omega)) hm
  refine c_layStem (by omega) hs isL1 ho hcw hcr1 h.2.2.2.2.1.1 hi hm hp (fun I1 A1 b1 f1 => c_size isL1 b1 ⟨h11.fx f1 (by decide) (by decide), ?_⟩)
  have hmw1 := hmw.fx f1 (by decide) (by decide) (by decide)
  have hb24 := b1.2.1
  refine t_M_stem_0 _ _ (c_strange (by omega) hmw1 ho (fun n => absurd ⟨i, w, rfl, hi⟩ n) (fun _ => z0 (c_beyond (fun k => ?_) (fun _ => z0 (c_take ho hi hmw1 (fun I2 A2 r2 f2 => ?_))))))
  · rcases k with k | k
    · exact absurd k npo
    · exact absurd k (nlt (b := s) (a := 3) hs)
  have f12 : fx [(1008, 1), (1033, 21)] [1009, 1048] I A I2 A2 := (f1.sub (by decide) (by decide)).tr (f2.sub (by decide) (by decide))
  refine c_stemOf (by omega) hs ho (hmw.fx f12 (by decide) (by decide) (by decide)) (hmr1.fx f12 (by decide) (by decide)) r2 hi (by rw [f12.2 1038 i (by decide)]; exact hm2) (by rw [f12.2 1039 i (by decide), h3a]; exact hp) (fun I3 A3 r3 f3 => c_show (w := sto s m p rs w) (by omega) r3 (fun I4 A4 o4 o4' f4 => ⟨rfl, t, ws, sto s m p rs w, ?_⟩))
  have hg : fx ((1008, 1) :: (1033, 3) :: (1010, 1) :: jS) (1009 :: 1035 :: 1011 :: jT) I A I4 A4 := (f12.sub (by decide) (by decide)).tr ((f3.sub (by decide) (by decide)).tr (f4.sub (by decide) (by decide)))
  obtain ⟨a, ha⟩ := h.2.2.2.2.2.2.2.2.2.1.1
  exact Sm_sh h hg (((ha.fx f12 (by decide) (by decide)).fx f3 (by decide) (by decide)).fx f4 (by decide) (by decide)) (((b1.fx f2 (by decide) (by decide)).fx f3 (by decide) (by decide)).fx f4 (by decide) (by decide)) ⟨o4, o4'⟩
end CTR

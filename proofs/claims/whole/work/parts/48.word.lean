/-! WORD -/
abbrev iw (t : List Int32) : Prop := 1 ≤ t.length ∧ t.length ≤ 24 ∧ ∀ b ∈ t, lo b
theorem all_getD {t : List Int32} {P : Int32 → Prop} (h : ∀ j, j < t.length → P (t.getD j 0)) : ∀ b ∈ t, P b := by
  intro b hb
  obtain ⟨n, hn, rfl⟩ := List.getElem_of_mem hb
  have := h n hn
  rw [List.getD_eq_getElem?_getD, List.getElem?_eq_getElem hn] at this
  exact this
theorem nodup_snoc {ws : List (List Int32)} {u : List Int32} (h : ws.Nodup) (hu : u ∉ ws) : (ws ++ [u]).Nodup := by
  rw [List.nodup_append]
  refine ⟨h, by simp, fun a ha b hb e => ?_⟩
  rw [List.mem_singleton] at hb
  rw [← hb, ← e] at hu
  exact hu ha
section CTR
variable {d : Nat} {I A : Nat → Nat → Int32} {K : Int32 → (Nat → Nat → Int32) → (Nat → Nat → Int32) → Prop} {V : (Nat → Nat → Int32) → (Nat → Nat → Int32) → Prop} {t u w o : List Int32} {ws : List (List Int32)} {i N L : Nat} {xs : Nat → Int32}
theorem tc.fr (h : tc I A t) (hL : ev_isL L) {I' A' : Nat → Nat → Int32} (g : fr L I A I' A') : tc I' A' t := by
  unfold ev_isL at hL
  exact h.fx g (by simp; omega) (by simp; omega)
theorem c_copyAsWord_l (hd : 1 ≤ d) (hL : ev_isL L) (hl : t.length ≤ 24) {I0 A0 : Nat → Nat → Int32} (h1 : (∀ b ∈ t, lo b) → ∀ I' A', bu I' A' L t → fr L I0 A0 I' A' → K 1 I' A') (h0 : ¬ (∀ b ∈ t, lo b) → ∀ I' A' v, bu I' A' L v → fr L I0 A0 I' A' → K 0 I' A') : ∀ n j I A o3, j + n = t.length → tc I A t → bu I A L (t.take j) → fr L I0 A0 I A → (∀ k, k < j → lo (t.getD k 0)) → ev_Bi d 66 26 [some (.ref 1001), some (.ref L), some (.int (nI j)), o3] I A K := by
  obtain ⟨d, rfl⟩ : ∃ e, d = e + 1 := ⟨d - 1, by omega⟩
  intro n
  induction n with
  | zero =>
    intro j I A o3 hj ht hb hf hh
    refine t_T_copyAsWord_26 hL _ _ ?_
    rw [ht.1]
    refine ct (ule (by omega)) (h1 (all_getD (fun k hk => hh k (by omega))) _ _ ?_ hf)
    rw [List.take_of_length_le (by omega)] at hb
    exact hb
  | succ n ih =>
    intro j I A o3 hj ht hb hf hh
    have bad : ¬ lo (t.getD j 0) → K 0 I A := fun c => h0 (fun k => c (k _ (getD_mem (by omega)))) _ _ _ hb hf
    refine t_T_copyAsWord_26 hL _ _ ?_
    rw [ht.1, ncl, ht.2.2 j (by omega), nI_1]
    refine cf (nle (by omega)) ⟨vin (by omega), fun c => bad (fun k => absurd k.1 (Int32.not_le.mpr c)), fun c => ⟨fun c' => ?_, fun c' => bad (fun k => c' k.2)⟩⟩
    have hlo : lo (t.getD j 0) := ⟨Int32.not_lt.mp c, c'⟩
    refine c_add hL hb (by simp; omega) (lo_fit hlo) (fun I' A' hb' hf' => ?_)
    refine ih (j + 1) I' A' _ (by omega) (ht.fr hL hf') ?_ (hf.tr hf') (fun k hk => ?_)
    · rw [take_snoc (by omega)]
      exact hb'
    · by_cases e : k = j
      · rw [e]
        exact hlo
      · exact hh k (by omega)
theorem c_copyAsWord (hd : 1 ≤ d) (hL : ev_isL L) (ht : tc I A t) (hb : bu I A L u) (h1 : iw t → ∀ I' A', bu I' A' L t → fr L I A I' A' → K 1 I' A') (h0 : ¬ iw t → ∀ I' A' v, bu I' A' L v → fr L I A I' A' → K 0 I' A') : ev_Bi d 66 0 [some (.ref 1001), some (.ref L), none, none] I A K := by
  obtain ⟨d, rfl⟩ : ∃ e, d = e + 1 := ⟨d - 1, by omega⟩
  refine t_T_copyAsWord_0 hL (c_shorten0 hL hb (fun I1 A1 b1 f1 => ?_))
  have ht1 := ht.fr hL f1
  have hl := ht.2.1
  rw [ht1.1]
  by_cases c : 1 ≤ t.length
  · refine cf (nlt (b := 1) c) ?_
    by_cases c' : t.length ≤ 24
    · refine ct (ule (b := 24) c') ?_
      refine c_copyAsWord_l (by omega) hL c' (fun k => h1 ⟨c, c', k⟩) (fun k => h0 (fun q => k q.2.2)) t.length 0 I1 A1 none (by omega) ht1 ?_ f1 (fun k hk => absurd hk (by omega))
      rw [List.take_zero]
      exact b1
    · exact cf (nle (b := 24) (by omega)) (h0 (fun q => c' q.2.1) _ _ _ b1 f1)
  · exact ct (ult (b := 1) (by omega)) (h0 (fun q => c q.1) _ _ _ b1 f1)
theorem c_wordM_l (hl : t.length ≤ 24) {I0 A0 : Nat → Nat → Int32} (hm : ∀ j, j < t.length → A0 1034 j = t.getD j 0) (h1 : (∀ b ∈ t, lo b) → ∀ A' x3, (∀ j, j < t.length → A' 1048 j = t.getD j 0) → fx [] [1048] I0 A0 I0 A' → ev_Bi (d + 1) 130 77 [some (.ref 1033), some (.int (nI t.length)), some (.int 1), some (.int x3)] I0 A' K) (h0 : ¬ (∀ b ∈ t, lo b) → ∀ A', fx [] [1048] I0 A0 I0 A' → K (-2) I0 A') : ∀ n j A, j + n = t.length → (∀ k, k < j → A 1048 k = t.getD k 0) → (∀ k, k < j → lo (t.getD k 0)) → fx [] [1048] I0 A0 I0 A → ev_Bi (d + 1) 130 28 [some (.ref 1033), some (.int (nI t.length)), some (.int 1), some (.int (nI j))] I0 A K := by
  intro n
  induction n with
  | zero =>
    intro j A hj hh hlo hf
    exact t_M_word_28 _ _ _ (z1 (ct (ule (by omega)) (h1 (all_getD (fun k hk => hlo k (by omega))) _ _ (fun k hk => hh k (by omega)) hf)))
  | succ n ih =>
    intro j A hj hh hlo hf
    have e34 : ∀ j, A 1034 j = A0 1034 j := fun j => hf.2 _ _ (by simp)
    refine t_M_word_28 _ _ _ (z1 (cf (nle (by omega)) ⟨vin (by omega), ?_⟩))
    rw [ncl, e34, hm j (by omega), nI_1]
    have nx : fx [] [1048] I0 A0 I0 (ev_upd A 1048 j (A 1034 j)) := hf.tr (fx.au (by simp))
    refine c_beyond (fun c => z1 ⟨vin (by omega), vin (by omega), t_M_word_28 _ _ _ (z0 (t_M_word_77 _ _ _ (z0 (h0 ?_ _ nx))))⟩) (fun c => z0 ⟨vin (by omega), vin (by omega), ?_⟩)
    · intro k
      have := k _ (getD_mem (show j < t.length by omega))
      rcases c with c | c
      · exact absurd this.1 (Int32.not_le.mpr c)
      · exact absurd this.2 (Int32.not_le.mpr c)
    · have hl' : lo (t.getD j 0) := ⟨Int32.not_lt.mp (fun k => c (.inl k)), Int32.not_lt.mp (fun k => c (.inr k))⟩
      refine ih (j + 1) _ (by omega) (fun k hk => ?_) (fun k hk => ?_) nx
      · rw [ev_upd_at]
        by_cases e : k = j
        · rw [if_pos e, e, e34, hm j (by omega)]
        · rw [if_neg e, hh k (by omega)]
      · by_cases e : k = j
        · rw [e]
          exact hl'
        · exact hlo k (by omega)
/-- WORD in the reference -/
theorem c_wordM (hd : 2 ≤ d) (hm : tm I A t) (ho : ok ws) (hw : mw I A ws) (h0 : ¬ iw t → ∀ I' A', I' 1033 1 = 0 → fx [(1033, 1)] [1048] I A I' A' → K (-2) I' A')
    (h1 : iw t → ∀ i, fi ws t = some i → ∀ I' A', I' 1033 1 = 0 → fx [(1033, 1), (1033, 21)] [1048] I A I' A' → K (nI i) I' A')
    (h2 : iw t → fi ws t = none → 150 ≤ ws.length → ∀ I' A', I' 1033 1 = 0 → fx [(1033, 1), (1033, 21)] [1048] I A I' A' → K (-4) I' A')
    (h3 : iw t → fi ws t = none → ws.length < 150 → ∀ I' A', I' 1033 1 = 0 → mw I' A' (ws ++ [t]) → fx [(1033, 1), (1033, 21), (1033, 6)] [1048, 1036, 1037, 1038, 1039] I A I' A' → (∀ j, A' 1039 j = if j = ws.length then -5 else A 1039 j) → (∀ j, A' 1038 j = if j = ws.length then 0 else A 1038 j) → K (nI ws.length) I' A') : ev_Bi d 130 0 [some (.ref 1033), none, none, none] I A K := by
  obtain ⟨d, rfl⟩ : ∃ e, d = e + 1 := ⟨d - 1, by omega⟩
  have hl := hm.2.1
  refine t_M_word_0 ?_
  rw [hm.1]
  have f0 : fx [(1033, 1)] [1048] I A (ev_upd I 1033 1 0) A := fx.iu (by simp)
  refine c_beyond (fun c => z1 (t_M_word_28 _ _ _ (z0 (t_M_word_77 _ _ _ (z0 (h0 ?_ _ _ ev_upd_eq f0)))))) (fun c => z0 ?_)
  · intro q
    rcases c with c | c
    · have c' : nI t.length < nI 1 := c
      rw [nI_ltI (by omega) (by omega)] at c'
      omega
    · have c' : nI 24 < nI t.length := c
      rw [nI_ltI (by omega) (by omega)] at c'
      omega
  · have c1 : ¬ nI t.length < nI 1 := fun k => c (.inl k)
    have c2 : ¬ nI 24 < nI t.length := fun k => c (.inr k)
    rw [nI_ltI (by omega) (by omega)] at c1 c2
    refine c_wordM_l (t := t) (by omega) hm.2.2 (fun hlo A' x3 hA hf => ?_) (fun hlo A' hf => ?_) t.length 0 A (by omega) (fun k hk => absurd hk (by omega)) (fun k hk => absurd hk (by omega)) fx.rf
    · have hiw : iw t := ⟨by omega, by omega, hlo⟩
      refine t_M_word_77 _ _ _ (z1 ?_)
      have f1 : fx [(1033, 1), (1033, 21)] [1048] I A (ev_upd (ev_upd I 1033 1 0) 1033 21 (nI t.length)) A' := (fx.iu (by simp)).tr ((hf.sub (by simp) (by simp)).tr (fx.iu (by simp)))
      have e1 : ev_upd (ev_upd I 1033 1 0) 1033 21 (nI t.length) 1033 1 = 0 := by rw [ev_upd_nk (by decide), ev_upd_eq]
      refine c_learnM (by omega) ho (hw.fx f1 (by decide) (by decide) (by decide)) ⟨ev_upd_eq, by omega, hA⟩ (by omega) (fun i hi => ct ?_ (h1 hiw i hi _ _ e1 f1)) (fun q1 q2 => cf (by decide) (h2 hiw q1 q2 _ _ e1 f1)) (fun q1 q2 I3 A3 m3 f3 p3 k3 => ct nge (h3 hiw q1 q2 _ _ ?_ m3 ((f1.sub (by decide) (by decide)).tr (f3.sub (by decide) (by decide))) (fun j => ?_) (fun j => ?_)))
      · have := ho.at (fi_get hi)
        exact nge
      · rw [f3.1 _ _ (by decide)]
        exact e1
      · rw [p3, f1.2 _ _ (by decide)]
      · rw [k3, f1.2 _ _ (by decide)]
    · exact h0 (fun q => hlo q.2.2) _ _ ev_upd_eq (f0.tr (hf.sub (by simp) (by simp)))
theorem Sm_learn {I' A' : Nat → Nat → Int32} {t' a : List Int32} (h : Sm N xs I A t ws o) (g : fx ((1001, 1) :: (1033, 1) :: (1010, 1) :: (1003, 4) :: (1033, 6) :: jS) (1002 :: 1011 :: 1004 :: 1005 :: 1006 :: 1036 :: 1037 :: 1038 :: 1039 :: jT) I A I' A') (h1 : S1 I' A' t') (hb : bu I' A' 1010 a) (hc : cw I' A' (ws ++ [u])) (hm : mw I' A' (ws ++ [u])) (hu : iw u) (hl : ws.length < 150) (hn : fi ws u = none) (h6 : ∀ j, A' 1006 j = if j = ws.length then -5 else A 1006 j) (h9 : ∀ j, A' 1039 j = if j = ws.length then -5 else A 1039 j) (h8 : ∀ j, A' 1038 j = if j = ws.length then 0 else A 1038 j) : Sm N xs I' A' t' (ws ++ [u]) o := by
  obtain ⟨_, h2, h3, h4, h5, ⟨r, s6⟩, ⟨q, s7⟩, s8, ⟨k, s9⟩, ⟨_, b, h10⟩, h11⟩ := h
  have e7 : ∀ j, A' 1007 j = A 1007 j := fun j => g.2 _ _ (by decide)
  refine ⟨h1, ⟨hc, hm, h2.2.2.1.snoc hl hu.1 hu.2.1 hu.2.2, nodup_snoc h2.2.2.2 (fi_no hn)⟩, fun j hj => ?_, ⟨fun j => ?_, fun j q1 q2 => ?_, fun j hj => ?_⟩, S5.fx h5 g (by decide) (by decide), ⟨r, (s6.fx g (by decide) (by decide)).snoc⟩, ⟨q, (s7.fx g (by decide) (by decide)).snoc⟩, s8.fx g (by decide), ⟨k, s9.fx g (by decide) (by decide)⟩, ⟨⟨a, hb⟩, b, h10.fx g (by decide) (by decide)⟩, h11.fx g (by decide) (by decide)⟩
  · rw [h6, h9]
    by_cases c : j = ws.length
    · rw [if_pos c, if_pos c]
      exact ⟨rfl, .inl rfl⟩
    · rw [if_neg c, if_neg c]
      simp at hj
      obtain ⟨q1, q2⟩ := h3 j (by omega)
      exact ⟨q1, nk.snoc q2⟩
  · rw [e7]
    exact h4.1 j
  · rw [e7]
    simp at q1
    exact h4.2.1 j (by omega) q2
  · rw [h8, e7, e7, e7]
    simp at hj
    by_cases c : j = ws.length
    · rw [if_pos c, h4.2.1 _ (by omega) (by omega), h4.2.1 _ (by omega) (by omega), h4.2.1 _ (by omega) (by omega)]
      decide
    · rw [if_neg c]
      exact h4.2.2 j (by omega)
theorem Sm_tw {I' A' : Nat → Nat → Int32} {t' a : List Int32} (h : Sm N xs I A t ws o) (g : fx ((1001, 1) :: (1033, 1) :: (1010, 1) :: jS) (1002 :: 1011 :: jT) I A I' A') (h1 : S1 I' A' t') (hb : bu I' A' 1010 a) : Sm N xs I' A' t' ws o := by
  obtain ⟨_, h2, h3, h4, h5, ⟨r, h6⟩, ⟨q, h7⟩, h8, ⟨k, h9⟩, ⟨_, b, h10⟩, h11⟩ := h
  exact ⟨h1, S2.fx h2 g (by decide) (by decide), h3.fx g (by decide), h4.fx g (by decide), S5.fx h5 g (by decide) (by decide), ⟨r, h6.fx g (by decide) (by decide)⟩, ⟨q, h7.fx g (by decide) (by decide)⟩, h8.fx g (by decide), ⟨k, h9.fx g (by decide) (by decide)⟩, ⟨⟨a, hb⟩, b, h10.fx g (by decide) (by decide)⟩, h11.fx g (by decide) (by decide)⟩
theorem u_word (hd : 4 ≤ d) (h : Sm N xs I A t ws o) : ev_Bi d 96 0 [some (.ref 1000), none] I A (md d N xs 130 [some (.ref 1033), none, none, none]) := by
  obtain ⟨d, rfl⟩ : ∃ e, d = e + 1 := ⟨d - 1, by omega⟩
  have h11 := Sm_S11 h
  obtain ⟨hcw, hmw, ho, _⟩ := h.2.1
  obtain ⟨hc, hm, hby⟩ := h.1
  obtain ⟨a, ha⟩ := h.2.2.2.2.2.2.2.2.2.1.1
  have nil1 : ∀ I' A', tc I' A' (t.take 0) → I' 1033 1 = 0 → S1 I' A' [] := fun I' A' c e => ⟨by rw [List.take_zero] at c; exact c, ⟨by rw [e]; rfl, by simp, fun j hj => absurd hj (by simp)⟩, fun b hb => absurd hb (by simp)⟩
  refine t_S_word_0 (c_copyAsWord (by omega) isL2 hc ha (fun hiw I1 A1 b1 f1 => ?_) (fun hiw I1 A1 v b1 f1 => ?_))
  · have c1 := hc.fx f1 (by decide) (by decide)
    refine c_keep (j := 0) c1 (by omega) (fun I2 A2 c2 f2 => z1 ?_)
    have f12 : fx [(1010, 1), (1001, 1)] [1011, 1002] I A I2 A2 := (f1.sub (by decide) (by decide)).tr (f2.sub (by decide) (by decide))
    have b2 := b1.fx f2 (by decide) (by decide)
    refine c_learn (by omega) isL2 (hcw.fx f12 (by decide) (by decide) (by decide)) ho b2 (fun i hi => ⟨h11.fx f12 (by decide) (by decide), ?_⟩) (fun q1 q2 => ⟨h11.fx f12 (by decide) (by decide), ?_⟩) (fun q1 q2 I3 A3 w3 f3 p3 => ?_)
    · refine c_wordM (by omega) (hm.fx f12 (by decide) (by decide)) ho (hmw.fx f12 (by decide) (by decide) (by decide)) (fun n => absurd hiw n) (fun _ j hj I4 A4 e4 f4 => ?_) (fun _ n => absurd hi (by rw [n]; simp)) (fun _ n => absurd hi (by rw [n]; simp))
      rw [hi, Option.some.injEq] at hj
      subst hj
      exact ⟨rfl, [], ws, o, Sm_tw h ((f12.sub (by decide) (by decide)).tr (f4.sub (by decide) (by decide))) (nil1 _ _ (c2.fx f4 (by decide) (by decide)) e4) (b2.fx f4 (by decide) (by decide))⟩
    · refine c_wordM (by omega) (hm.fx f12 (by decide) (by decide)) ho (hmw.fx f12 (by decide) (by decide) (by decide)) (fun n => absurd hiw n) (fun _ j hj => absurd q1 (by rw [hj]; simp)) (fun _ _ _ I4 A4 e4 f4 => ?_) (fun _ _ n => absurd n (by omega))
      exact ⟨rfl, [], ws, o, Sm_tw h ((f12.sub (by decide) (by decide)).tr (f4.sub (by decide) (by decide))) (nil1 _ _ (c2.fx f4 (by decide) (by decide)) e4) (b2.fx f4 (by decide) (by decide))⟩
    · have f123 : fx [(1010, 1), (1001, 1), (1003, 4)] [1011, 1002, 1004, 1005, 1006] I A I3 A3 := (f12.sub (by decide) (by decide)).tr (f3.sub (by decide) (by decide))
      refine ⟨h11.fx f123 (by decide) (by decide), ?_⟩
      refine c_wordM (by omega) (hm.fx f123 (by decide) (by decide)) ho (hmw.fx f123 (by decide) (by decide) (by decide)) (fun n => absurd hiw n) (fun _ j hj => absurd q1 (by rw [hj]; simp)) (fun _ _ n => absurd n (by omega)) (fun _ _ _ I4 A4 e4 m4 f4 p4 k4 => ⟨rfl, [], ws ++ [t], o, ?_⟩)
      refine Sm_learn (a := t) h ((f123.sub (by decide) (by decide)).tr (f4.sub (by decide) (by decide))) (nil1 _ _ ((c2.fx f3 (by decide) (by decide)).fx f4 (by decide) (by decide)) e4) ((b2.fx f3 (by decide) (by decide)).fx f4 (by decide) (by decide)) (w3.fx f4 (by decide) (by decide) (by decide)) m4 hiw q2 q1 (fun j => ?_) (fun j => ?_) (fun j => ?_)
      · rw [f4.2 _ _ (by decide), p3, f12.2 _ _ (by decide)]
      · rw [p4, f123.2 _ _ (by decide)]
      · rw [k4, f123.2 _ _ (by decide)]
  · have c1 := hc.fx f1 (by decide) (by decide)
    refine c_keep (j := 0) c1 (by omega) (fun I2 A2 c2 f2 => z0 ?_)
    have f12 : fx [(1010, 1), (1001, 1)] [1011, 1002] I A I2 A2 := (f1.sub (by decide) (by decide)).tr (f2.sub (by decide) (by decide))
    refine ⟨h11.fx f12 (by decide) (by decide), c_wordM (by omega) (hm.fx f12 (by decide) (by decide)) ho (hmw.fx f12 (by decide) (by decide) (by decide)) (fun _ I4 A4 e4 f4 => ?_) (fun n => absurd n hiw) (fun n => absurd n hiw) (fun n => absurd n hiw)⟩
    exact ⟨rfl, [], ws, o, Sm_tw h ((f12.sub (by decide) (by decide)).tr (f4.sub (by decide) (by decide))) (nil1 _ _ (c2.fx f4 (by decide) (by decide)) e4) ((b1.fx f2 (by decide) (by decide)).fx f4 (by decide) (by decide))⟩
end CTR

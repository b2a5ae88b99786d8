/-! KEYS BY SOUNDS -/
abbrev rp (w : List Int32) (f : Nat) (s : List Int32) : List Int32 := w.take f ++ s ++ w.drop (f + s.length)
theorem rp_len {w s : List Int32} {f : Nat} (h : f + s.length ≤ w.length) : (rp w f s).length = w.length := by
  simp only [rp, List.length_append, List.length_take, List.length_drop]
  omega
theorem rp_set {w : List Int32} {f : Nat} {c : Int32} (h : f < w.length) : rp w f [c] = w.set f c := by
  have h1 := set_take (w := w) (f := f) (j := 0) (s := [c]) (by simp; omega) (by simp)
  rw [List.take_zero, List.append_nil, Nat.add_zero, List.take_append_drop] at h1
  exact h1.symm
theorem rp_two {w : List Int32} {f : Nat} {c e : Int32} (h : f + 1 < w.length) (he : w.getD (f + 1) 0 = e) : rp w f [c, e] = w.set f c := by
  have h1 := set_take (w := w) (f := f) (j := 0) (s := [c, e]) (by simp; omega) (by simp)
  have h2 := set_take (w := w) (f := f) (j := 1) (s := [c, e]) (by simp; omega) (by simp)
  rw [List.take_zero, List.append_nil, Nat.add_zero, List.take_append_drop] at h1
  have h3 : rp w f [c, e] = (w.set f c).set (f + 1) e := by
    have h4 : (w.set f c) = w.take f ++ [c, e].take 1 ++ w.drop (f + 1) := h1
    rw [h4]
    exact h2.symm
  rw [h3]
  refine lext (by simp) (fun j hj => ?_)
  rw [List.length_set, List.length_set] at hj
  rw [getD_set (by rw [List.length_set]; exact hj)]
  by_cases ce : j = f + 1
  · rw [if_pos ce, getD_set hj, if_neg (by omega), ce, he]
  · rw [if_neg ce]
def bg (w : List Int32) : List Int32 :=
  if sa w 0 [109, 97, 99] then rp w 0 [109, 99, 99] else if sa w 0 [107, 110] then rp w 0 [110, 110] else if sa w 0 [107] then rp w 0 [99]
  else if sa w 0 [112, 104] then rp w 0 [102, 102] else if sa w 0 [112, 102] then rp w 0 [102, 102] else if sa w 0 [115, 99, 104] then rp w 0 [115, 115, 115] else w
def edg (w : List Int32) : List Int32 :=
  if w.length < 3 then w else if [101, 101] <:+ w ∨ [105, 101] <:+ w then w.take (w.length - 2) ++ [121]
  else if [100, 116] <:+ w ∨ [114, 116] <:+ w ∨ [114, 100] <:+ w ∨ [110, 116] <:+ w ∨ [110, 100] <:+ w then w.take (w.length - 2) ++ [100] else w
def chl (w : List Int32) (i : Nat) : List Int32 :=
  if sa w i [101, 118] then rp w i [97, 102]
  else if vw (w.getD i 0) then w.set i 97
  else if w.getD i 0 = 104 ∧ (¬ vw (w.getD (i - 1) 0) ∨ ¬ vw (w.getD (i + 1) 0)) then w.set i (w.getD (i - 1) 0)
  else if w.getD i 0 = 119 ∧ vw (w.getD (i - 1) 0) then w.set i (w.getD (i - 1) 0)
  else if w.getD i 0 = 113 then w.set i 103
  else if w.getD i 0 = 122 then w.set i 115
  else if w.getD i 0 = 109 then w.set i 110
  else if sa w i [107, 110] then w.set i 110
  else if w.getD i 0 = 107 then w.set i 99
  else if sa w i [115, 99, 104] then rp w i [115, 115, 115]
  else if sa w i [112, 104] then rp w i [102, 102]
  else w
theorem sa_one {w : List Int32} {i : Nat} {c : Int32} (h : i < w.length) : sa w i [c] ↔ w.getD i 0 = c := by
  rw [sa_iff (by simp)]
  constructor
  · exact fun q => q.2 0 (by simp)
  · refine fun q => ⟨by simp; omega, fun j hj => ?_⟩
    have : j = 0 := by simpa using hj
    subst this
    exact q
theorem sa_hd {w s : List Int32} {i : Nat} {c : Int32} (h : sa w i (c :: s)) : w.getD i 0 = c := ((sa_iff (by simp)).mp h).2 0 (by simp)
theorem chl_len {w : List Int32} {i : Nat} : (chl w i).length = w.length := by
  have hr : ∀ {s s' : List Int32}, s ≠ [] → s'.length = s.length → sa w i s → (rp w i s').length = w.length := fun {s s'} hne hl h => by
    refine rp_len ?_
    rw [hl]
    exact ((sa_iff hne).mp h).1
  unfold chl
  split
  · rename_i hh
    refine hr ?_ ?_ hh <;> simp
  all_goals (repeat' split)
  all_goals first
    | exact List.length_set
    | rfl
    | (rename_i hh; refine hr ?_ ?_ hh <;> simp)
def slp (w0 : List Int32) : Nat → List Int32 × List Int32
  | 0 => (w0, [w0.getD 0 0])
  | n + 1 => (chl (slp w0 n).1 (n + 1), if (chl (slp w0 n).1 (n + 1)).getD (n + 1) 0 = (slp w0 n).2.getD ((slp w0 n).2.length - 1) 0 then (slp w0 n).2 else (slp w0 n).2 ++ [(chl (slp w0 n).1 (n + 1)).getD (n + 1) 0])
theorem slp_len {w : List Int32} : ∀ n, (slp w n).1.length = w.length ∧ 1 ≤ (slp w n).2.length ∧ (slp w n).2.length ≤ n + 1
  | 0 => ⟨rfl, by simp [slp], by simp [slp]⟩
  | n + 1 => by
    obtain ⟨h1, h2, h3⟩ := slp_len (w := w) n
    refine ⟨by rw [slp, chl_len, h1], ?_, ?_⟩
    · rw [slp]
      simp only
      split
      · exact h2
      · simp
    · rw [slp]
      simp only
      split
      · omega
      · simp
        omega
def tr1 (o : List Int32) : List Int32 := if 1 < o.length ∧ [115] <:+ o then o.take (o.length - 1) else o
def tr2 (o : List Int32) : List Int32 := if 1 < o.length ∧ [97, 121] <:+ o then o.take (o.length - 2) ++ [121] else o
def tr3 (o : List Int32) : List Int32 := if 1 < o.length ∧ [97] <:+ o then o.take (o.length - 1) else o
def sds (w : List Int32) : List Int32 := (tr3 (tr2 (tr1 (slp (edg (bg w)) ((edg (bg w)).length - 1)).2))).take 6
theorem bg_len {w : List Int32} : (bg w).length = w.length := by
  have hr : ∀ {s s' : List Int32}, s ≠ [] → s'.length = s.length → sa w 0 s → (rp w 0 s').length = w.length := fun {s s'} hne hl h => by
    refine rp_len ?_
    rw [hl]
    exact ((sa_iff hne).mp h).1
  unfold bg
  repeat' split
  all_goals first
    | rfl
    | (rename_i hh; refine hr ?_ ?_ hh <;> simp)
theorem edg_len {w : List Int32} (h : 1 ≤ w.length) : 1 ≤ (edg w).length ∧ (edg w).length ≤ w.length := by
  unfold edg
  repeat' split
  all_goals first
    | (exact ⟨h, Nat.le_refl _⟩)
    | (rw [List.length_append, List.length_take, List.length_singleton]; omega)
section CTR
variable {d : Nat} {I A : Nat → Nat → Int32} {K : Int32 → (Nat → Nat → Int32) → (Nat → Nat → Int32) → Prop} {V : (Nat → Nat → Int32) → (Nat → Nat → Int32) → Prop} {L i : Nat} {u w : List Int32}
theorem c_chA (s s' : List Int32) {x y f : Nat} (ex : tx x = s) (ey : tx y = s') (hd : 6 ≤ d) (hL : ev_isL L) (hb : bu I A L w) (hx : x < 110) (hy : y < 110) (hs : s ≠ []) (hl : s'.length = s.length) (hf : f < 1000000000) (h1 : sa w f s → ∀ I' A', bu I' A' L (rp w f s') → fr L I A I' A' → K 1 I' A') (h0 : ¬ sa w f s → K 0 I A) : ev_Bi d 37 0 [some (.ref L), some (.int (nI f)), some (.ref x), some (.ref y), none] I A K := by
  subst ex
  subst ey
  exact c_changeAt hd hL hb hx hy hs hl hf h1 h0
theorem c_chE (s s' : List Int32) {x y : Nat} (ex : tx x = s) (ey : tx y = s') (hd : 7 ≤ d) (hL : ev_isL L) (hb : bu I A L w) (hx : x < 110) (hy : y < 110) (hs : s ≠ []) (hl : w.length - s.length + s'.length ≤ 24) (h1 : s <:+ w → ∀ I' A', bu I' A' L (w.take (w.length - s.length) ++ s') → fr L I A I' A' → K 1 I' A') (h0 : ¬ s <:+ w → K 0 I A) : ev_Bi d 38 0 [some (.ref L), some (.ref x), some (.ref y), none] I A K := by
  subst ex
  subst ey
  exact c_changeEnd hd hL hb hx hy hs hl h1 h0
theorem c_changeBeginning (hd : 7 ≤ d) (hL : ev_isL L) (hb : bu I A L w) (h : ∀ z I' A', bu I' A' L (bg w) → fr L I A I' A' → K z I' A') : ev_Bi d 24 0 [some (.ref L)] I A K := by
  obtain ⟨d, rfl⟩ : ∃ e, d = e + 1 := ⟨d - 1, by omega⟩
  unfold bg at h
  refine t_K_changeBeginning_0 hL (c_chA [109, 97, 99] [109, 99, 99] (by decide) (by decide) (f := 0) (by omega) hL hb (by omega) (by omega) (by decide) (by decide) (by omega) (fun g I1 A1 b1 f1 => cf (by decide) (h _ _ _ (by rw [if_pos g]; exact b1) f1)) (fun g1 => z0 ?_))
  rw [if_neg g1] at h
  refine c_chA [107, 110] [110, 110] (by decide) (by decide) (f := 0) (by omega) hL hb (by omega) (by omega) (by decide) (by decide) (by omega) (fun g I1 A1 b1 f1 => cf (by decide) (h _ _ _ (by rw [if_pos g]; exact b1) f1)) (fun g2 => z0 ?_)
  rw [if_neg g2] at h
  refine c_chA [107] [99] (by decide) (by decide) (f := 0) (by omega) hL hb (by omega) (by omega) (by decide) (by decide) (by omega) (fun g I1 A1 b1 f1 => cf (by decide) (h _ _ _ (by rw [if_pos g]; exact b1) f1)) (fun g3 => z0 ?_)
  rw [if_neg g3] at h
  refine c_chA [112, 104] [102, 102] (by decide) (by decide) (f := 0) (by omega) hL hb (by omega) (by omega) (by decide) (by decide) (by omega) (fun g I1 A1 b1 f1 => cf (by decide) (h _ _ _ (by rw [if_pos g]; exact b1) f1)) (fun g4 => z0 ?_)
  rw [if_neg g4] at h
  refine c_chA [112, 102] [102, 102] (by decide) (by decide) (f := 0) (by omega) hL hb (by omega) (by omega) (by decide) (by decide) (by omega) (fun g I1 A1 b1 f1 => cf (by decide) (h _ _ _ (by rw [if_pos g]; exact b1) f1)) (fun g5 => z0 ?_)
  rw [if_neg g5] at h
  refine c_chA [115, 99, 104] [115, 115, 115] (by decide) (by decide) (f := 0) (by omega) hL hb (by omega) (by omega) (by decide) (by decide) (by omega) (fun g I1 A1 b1 f1 => cf (by decide) (h _ _ _ (by rw [if_pos g]; exact b1) f1)) (fun g6 => z0 ?_)
  rw [if_neg g6] at h
  exact h _ _ _ hb fr.rf
theorem c_changeEndK (hd : 8 ≤ d) (hL : ev_isL L) (hb : bu I A L w) (h3 : 3 ≤ w.length) (h : ∀ z I' A', bu I' A' L (edg w) → fr L I A I' A' → K z I' A') : ev_Bi d 25 0 [some (.ref L)] I A K := by
  obtain ⟨d, rfl⟩ : ∃ e, d = e + 1 := ⟨d - 1, by omega⟩
  have h24 := hb.2.1
  unfold edg at h
  rw [if_neg (by omega)] at h
  have hl : w.length - 2 + 1 ≤ 24 := by omega
  refine t_K_changeEnding_0 hL (c_chE [101, 101] [121] (by decide) (by decide) (by omega) hL hb (by omega) (by omega) (by decide) hl (fun g I1 A1 b1 f1 => cf (by decide) (h _ _ _ (by rw [if_pos (.inl g)]; exact b1) f1)) (fun g1 => z0 ?_))
  refine c_chE [105, 101] [121] (by decide) (by decide) (by omega) hL hb (by omega) (by omega) (by decide) hl (fun g I1 A1 b1 f1 => cf (by decide) (h _ _ _ (by rw [if_pos (.inr g)]; exact b1) f1)) (fun g2 => z0 ?_)
  rw [if_neg (fun k : ([101, 101] <:+ w ∨ [105, 101] <:+ w) => k.elim g1 g2)] at h
  refine c_chE [100, 116] [100] (by decide) (by decide) (by omega) hL hb (by omega) (by omega) (by decide) hl (fun g I1 A1 b1 f1 => cf (by decide) (h _ _ _ (by rw [if_pos (.inl g)]; exact b1) f1)) (fun g3 => z0 ?_)
  refine c_chE [114, 116] [100] (by decide) (by decide) (by omega) hL hb (by omega) (by omega) (by decide) hl (fun g I1 A1 b1 f1 => cf (by decide) (h _ _ _ (by rw [if_pos (.inr (.inl g))]; exact b1) f1)) (fun g4 => z0 ?_)
  refine c_chE [114, 100] [100] (by decide) (by decide) (by omega) hL hb (by omega) (by omega) (by decide) hl (fun g I1 A1 b1 f1 => cf (by decide) (h _ _ _ (by rw [if_pos (.inr (.inr (.inl g)))]; exact b1) f1)) (fun g5 => z0 ?_)
  refine c_chE [110, 116] [100] (by decide) (by decide) (by omega) hL hb (by omega) (by omega) (by decide) hl (fun g I1 A1 b1 f1 => cf (by decide) (h _ _ _ (by rw [if_pos (.inr (.inr (.inr (.inl g))))]; exact b1) f1)) (fun g6 => z0 ?_)
  refine c_chE [110, 100] [100] (by decide) (by decide) (by omega) hL hb (by omega) (by omega) (by decide) hl (fun g I1 A1 b1 f1 => cf (by decide) (h _ _ _ (by rw [if_pos (.inr (.inr (.inr (.inr g))))]; exact b1) f1)) (fun g7 => z0 ?_)
  rw [if_neg] at h
  · exact h _ _ _ hb fr.rf
  · rintro (k | k | k | k | k)
    · exact g3 k
    · exact g4 k
    · exact g5 k
    · exact g6 k
    · exact g7 k
theorem c_changeLetter (hd : 8 ≤ d) (hL : ev_isL L) (hb : bu I A L w) (hi1 : 1 ≤ i) (hi : i < w.length) (h : ∀ I' A', bu I' A' L (chl w i) → fr L I A I' A' → V I' A') : ev_Bv d 26 0 [some (.ref L), some (.int (nI i)), none, none] I A V := by
  obtain ⟨d, rfl⟩ : ∃ e, d = e + 1 := ⟨d - 1, by omega⟩
  have h24 := hb.2.1
  have e1 : nI i - 1 = nI (i - 1) := nI_sub (b := 1) hi1
  have hfit : ∀ j, j < w.length → ev_fit 3 (w.getD j 0) = true := fun j hj => hb.2.2.2 _ (getD_mem hj)
  unfold chl at h
  refine t_K_changeLetter_0 hL _ (c_chA [101, 118] [97, 102] (by decide) (by decide) (by omega) hL hb (by omega) (by omega) (by decide) (by decide) (by omega) (fun g I1 A1 b1 f1 => cf (by decide) (h _ _ (by rw [if_pos g]; exact b1) f1)) (fun g1 => z0 (c_at hL hb (by omega) ?_)))
  rw [if_neg g1] at h
  rw [e1]
  refine c_at hL hb (by omega) (c_isVowel (fun v => z1 (c_put hL hb (by omega) (by decide) (fun I1 A1 b1 f1 => h _ _ (by rw [if_pos v]; exact b1) f1))) (fun v => z0 ?_))
  rw [if_neg v] at h
  have s101 : (¬ (w.getD i 0 = 104 ∧ (¬ vw (w.getD (i - 1) 0) ∨ ¬ vw (w.getD (i + 1) 0)))) → (¬ (w.getD i 0 = 119 ∧ vw (w.getD (i - 1) 0))) → ev_Bv (d + 1) 26 101 [some (.ref L), some (.int (nI i)), some (.int (w.getD i 0)), some (.int (w.getD (i - 1) 0))] I A V := fun k1 k2 => by
    rw [if_neg k1, if_neg k2] at h
    obtain ⟨d, rfl⟩ : ∃ e, d = e + 1 := ⟨d - 1, by omega⟩
    refine t_K_changeLetter_101 hL _ _ _ (t_K_changeConsonant_0 hL _ (c_chA [113] [103] (by decide) (by decide) (by omega) hL hb (by omega) (by omega) (by decide) (by decide) (by omega) (fun g I1 A1 b1 f1 => cf (by decide) (h _ _ (by rw [if_pos (sa_hd g), ← rp_set hi]; exact b1) f1)) (fun g2 => z0 ?_)))
    rw [if_neg (fun k => g2 ((sa_one hi).mpr k))] at h
    refine c_chA [122] [115] (by decide) (by decide) (by omega) hL hb (by omega) (by omega) (by decide) (by decide) (by omega) (fun g I1 A1 b1 f1 => cf (by decide) (h _ _ (by rw [if_pos (sa_hd g), ← rp_set hi]; exact b1) f1)) (fun g3 => z0 ?_)
    rw [if_neg (fun k => g3 ((sa_one hi).mpr k))] at h
    refine c_chA [109] [110] (by decide) (by decide) (by omega) hL hb (by omega) (by omega) (by decide) (by decide) (by omega) (fun g I1 A1 b1 f1 => cf (by decide) (h _ _ (by rw [if_pos (sa_hd g), ← rp_set hi]; exact b1) f1)) (fun g4 => z0 ?_)
    rw [if_neg (fun k => g4 ((sa_one hi).mpr k))] at h
    refine c_chA [107, 110] [110, 110] (by decide) (by decide) (by omega) hL hb (by omega) (by omega) (by decide) (by decide) (by omega) (fun g I1 A1 b1 f1 => cf (by decide) (h _ _ ?_ f1)) (fun g5 => z0 ?_)
    · have g' := g
      have q := (sa_iff (by simp)).mp g'
      have ql : i + 2 ≤ w.length := q.1
      rw [if_pos g', ← rp_two (c := 110) (e := 110) (by omega) (q.2 1 (by simp))]
      exact b1
    rw [if_neg g5] at h
    refine c_chA [107] [99] (by decide) (by decide) (by omega) hL hb (by omega) (by omega) (by decide) (by decide) (by omega) (fun g I1 A1 b1 f1 => cf (by decide) (h _ _ (by rw [if_pos (sa_hd g), ← rp_set hi]; exact b1) f1)) (fun g6 => z0 ?_)
    rw [if_neg (fun k => g6 ((sa_one hi).mpr k))] at h
    refine c_chA [115, 99, 104] [115, 115, 115] (by decide) (by decide) (by omega) hL hb (by omega) (by omega) (by decide) (by decide) (by omega) (fun g I1 A1 b1 f1 => cf (by decide) (h _ _ (by rw [if_pos g]; exact b1) f1)) (fun g7 => z0 ?_)
    rw [if_neg g7] at h
    refine c_chA [112, 104] [102, 102] (by decide) (by decide) (by omega) hL hb (by omega) (by omega) (by decide) (by decide) (by omega) (fun g I1 A1 b1 f1 => cf (by decide) (h _ _ (by rw [if_pos g]; exact b1) f1)) (fun g8 => z0 ?_)
    rw [if_neg g8] at h
    exact h _ _ hb fr.rf
  have s79 : (¬ (w.getD i 0 = 104 ∧ (¬ vw (w.getD (i - 1) 0) ∨ ¬ vw (w.getD (i + 1) 0)))) → ev_Bv (d + 1) 26 79 [some (.ref L), some (.int (nI i)), some (.int (w.getD i 0)), some (.int (w.getD (i - 1) 0))] I A V := fun k1 => by
    refine t_K_changeLetter_79 hL _ _ _ ⟨fun q => c_isVowel (fun v2 => z1 (c_put hL hb (by omega) (hfit _ (by omega)) (fun I1 A1 b1 f1 => h _ _ ?_ f1))) (fun v2 => z0 (s101 k1 (fun k => v2 k.2))), fun q => s101 k1 (fun k => q k.1)⟩
    rw [if_neg k1, if_pos ⟨q, v2⟩]
    exact b1
  have s70 : (w.getD i 0 = 104 ∧ (¬ vw (w.getD (i - 1) 0) ∨ ¬ vw (w.getD (i + 1) 0))) → ev_Bv (d + 1) 26 70 [some (.ref L), some (.int (nI i)), some (.int (w.getD i 0)), some (.int (w.getD (i - 1) 0))] I A V := fun k1 => by
    rw [if_pos k1] at h
    exact t_K_changeLetter_70 hL _ _ _ (c_put hL hb (by omega) (hfit _ (by omega)) h)
  refine ⟨fun q => c_isVowel (fun v2 => z1 ?_) (fun v2 => z0 (s70 ⟨q, .inl v2⟩)), fun q => s79 (fun k => q k.1)⟩
  rw [nI_1]
  refine c_at hL hb (by omega) (c_isVowel (fun v3 => z1 (s79 (fun k => ?_))) (fun v3 => z0 (s70 ⟨q, .inr v3⟩)))
  rcases k.2 with k | k
  · exact k v2
  · exact k v3
theorem c_trimEnd (hd : 8 ≤ d) (hL : ev_isL L) (hb : bu I A L w) (h : ∀ I' A', bu I' A' L (tr3 (tr2 (tr1 w))) → fr L I A I' A' → V I' A') : ev_Bv d 28 0 [some (.ref L)] I A V := by
  obtain ⟨d, rfl⟩ : ∃ e, d = e + 1 := ⟨d - 1, by omega⟩
  have s34 : ∀ v I1 A1, bu I1 A1 L v → fr L I A I1 A1 → v = tr2 (tr1 w) → ev_Bv (d + 1) 28 34 [some (.ref L)] I1 A1 V := fun v I1 A1 b1 f1 e => by
    rw [← e] at h
    have h24 := b1.2.1
    unfold tr3 at h
    refine t_K_trimEnd_34 hL (c_size hL b1 ?_)
    by_cases c : v.length ≤ 1
    · refine ct (ule (b := 1) c) (h _ _ ?_ f1)
      rw [if_neg (fun k => absurd k.1 (by omega))]
      exact b1
    · refine cf (nle (b := 1) (by omega)) (c_chE [97] [] (by decide) (by decide) (by omega) hL b1 (by omega) (by omega) (by decide) (show v.length - 1 + 0 ≤ 24 by omega) (fun g I2 A2 b2 f2 => h _ _ ?_ (f1.tr f2)) (fun g => h _ _ ?_ f1))
      · have e2 : v.take (v.length - 1) ++ ([] : List Int32) = v.take (v.length - 1) := List.append_nil _
        rw [if_pos ⟨by omega, g⟩, ← e2]
        exact b2
      · rw [if_neg (fun k => g k.2)]
        exact b1
  have s17 : ∀ v I1 A1, bu I1 A1 L v → fr L I A I1 A1 → v = tr1 w → ev_Bv (d + 1) 28 17 [some (.ref L)] I1 A1 V := fun v I1 A1 b1 f1 e => by
    have h24 := b1.2.1
    have e' : tr2 (tr1 w) = if 1 < v.length ∧ [97, 121] <:+ v then v.take (v.length - 2) ++ [121] else v := by rw [← e]; rfl
    refine t_K_trimEnd_17 hL (c_size hL b1 ?_)
    by_cases c : v.length ≤ 1
    · refine ct (ule (b := 1) c) (s34 _ _ _ b1 f1 ?_)
      rw [e', if_neg (fun k => absurd k.1 (by omega))]
    · refine cf (nle (b := 1) (by omega)) (c_chE [97, 121] [121] (by decide) (by decide) (by omega) hL b1 (by omega) (by omega) (by decide) (show v.length - 2 + 1 ≤ 24 by omega) (fun g I2 A2 b2 f2 => s34 _ _ _ b2 (f1.tr f2) ?_) (fun g => s34 _ _ _ b1 f1 ?_))
      · rw [e', if_pos ⟨by omega, g⟩]
        rfl
      · rw [e', if_neg (fun k => g k.2)]
  have h24 := hb.2.1
  have e' : tr1 w = if 1 < w.length ∧ [115] <:+ w then w.take (w.length - 1) else w := rfl
  refine t_K_trimEnd_0 hL (c_size hL hb ?_)
  by_cases c : w.length ≤ 1
  · refine ct (ule (b := 1) c) (s17 _ _ _ hb fr.rf ?_)
    rw [e', if_neg (fun k => absurd k.1 (by omega))]
  · refine cf (nle (b := 1) (by omega)) (c_chE [115] [] (by decide) (by decide) (by omega) hL hb (by omega) (by omega) (by decide) (show w.length - 1 + 0 ≤ 24 by omega) (fun g I2 A2 b2 f2 => s17 _ _ _ b2 f2 ?_) (fun g => s17 _ _ _ hb fr.rf ?_))
    · rw [e', if_pos ⟨by omega, g⟩]
      exact List.append_nil _
    · rw [e', if_neg (fun k => g k.2)]
abbrev sS : List (Nat × Nat) := [(1008, 1), (1010, 1)]
abbrev sT : List Nat := [1009, 1011]
theorem c_laySounds (hd : 9 ≤ d) (h1 : 1 ≤ w.length) (hb : bu I A 1010 w) (hu : bu I A 1008 u) (h : ∀ v I' A', bu I' A' 1010 v → bu I' A' 1008 (sds w) → fx sS sT I A I' A' → V I' A') : ev_Bv d 22 0 [some (.ref 1010), some (.ref 1008), none] I A V := by
  obtain ⟨d, rfl⟩ : ∃ e, d = e + 1 := ⟨d - 1, by omega⟩
  have h24 := hb.2.1
  have hbl := bg_len (w := w)
  have hel := edg_len (w := bg w) (by omega)
  have s18 : ∀ I1 A1 o2, bu I1 A1 1010 (edg (bg w)) → bu I1 A1 1008 u → fx sS sT I A I1 A1 → ev_Bv (d + 1) 22 18 [some (.ref 1010), some (.ref 1008), o2] I1 A1 V := fun I1 A1 o2 b1 u1 f1 => by
    unfold sds at h
    generalize edg (bg w) = v at b1 h hel
    have loop : ∀ n j I2 A2, j + 1 + n = v.length → bu I2 A2 1010 (slp v j).1 → bu I2 A2 1008 (slp v j).2 → fx sS sT I A I2 A2 → ev_Bv (d + 1) 22 34 [some (.ref 1010), some (.ref 1008), some (.int (nI (j + 1)))] I2 A2 V := by
      intro n
      induction n with
      | zero =>
        intro j I2 A2 hj b2 u2 f2
        have hsl := slp_len (w := v) j
        have ej : j = v.length - 1 := by omega
        refine t_K_laySounds_34 _ (c_size isL2 b2 ?_)
        rw [hsl.1]
        refine ct (ule (by omega)) (c_trimEnd (by omega) isL1 u2 (fun I3 A3 u3 f3 => c_shorten (i := 6) isL1 u3 (by omega) (fun I4 A4 u4 f4 => h _ _ _ ((b2.ot f3 isL1 isL2 (by decide)).ot f4 isL1 isL2 (by decide)) ?_ (f2.tr ((f3.sub (by decide) (by decide)).tr (f4.sub (by decide) (by decide)))))))
        rw [ej] at u4
        exact u4
      | succ n ih =>
        intro j I2 A2 hj b2 u2 f2
        obtain ⟨l1, l2, l3⟩ := slp_len (w := v) j
        have nx : ∀ I3 A3, bu I3 A3 1010 (slp v (j + 1)).1 → bu I3 A3 1008 (slp v (j + 1)).2 → fx sS sT I A I3 A3 → ev_Bv (d + 1) 22 74 [some (.ref 1010), some (.ref 1008), some (.int (nI (j + 1)))] I3 A3 V := fun I3 A3 b3 u3 f3 => by
          refine t_K_laySounds_74 _ ?_
          rw [nI_1]
          exact ih (j + 1) I3 A3 (by omega) b3 u3 f3
        refine t_K_laySounds_34 _ (c_size isL2 b2 ?_)
        rw [l1]
        refine cf (nle (by omega)) (c_changeLetter (by omega) isL2 b2 (by omega) (by omega) (fun I3 A3 b3 f3 => c_at isL2 b3 (by omega) ?_))
        have u3 := u2.ot f3 isL2 isL1 (by decide)
        have f23 := f2.tr (f3.sub (by decide) (by decide) : fx sS sT I2 A2 I3 A3)
        have e1 : nI (slp v j).2.length - 1 = nI ((slp v j).2.length - 1) := nI_sub (b := 1) (by omega)
        refine c_size isL1 u3 ?_
        rw [e1]
        refine c_at isL1 u3 (by omega) ⟨fun q => nx _ _ b3 ?_ f23, fun q => c_at isL2 b3 (by omega) (c_add isL1 u3 (by omega) (b3.2.2.2 _ (getD_mem (by rw [chl_len, l1]; omega))) (fun I4 A4 u4 f4 => nx _ _ (b3.ot f4 isL1 isL2 (by decide)) ?_ (f23.tr (f4.sub (by decide) (by decide)))))⟩
        · rw [slp]
          simp only
          rw [if_pos q]
          exact u3
        · rw [slp]
          simp only
          rw [if_neg q]
          exact u4
    refine t_K_laySounds_18 _ (c_shorten0 isL1 u1 (fun I2 A2 u2 f2 => ?_))
    have b2 := b1.ot f2 isL1 isL2 (by decide)
    refine c_at (i := 0) isL2 b2 (by omega) (c_add isL1 u2 (by simp) (b2.2.2.2 _ (getD_mem (by omega))) (fun I3 A3 u3 f3 => ?_))
    exact loop (v.length - 1) 0 I3 A3 (by omega) (b2.ot f3 isL1 isL2 (by decide)) u3 (f1.tr ((f2.sub (by decide) (by decide)).tr (f3.sub (by decide) (by decide))))
  refine t_K_laySounds_0 (c_changeBeginning (by omega) isL2 hb (fun z I1 A1 b1 f1 => c_size isL2 b1 ?_))
  have u1 := hu.ot f1 isL2 isL1 (by decide)
  by_cases c3 : (bg w).length < 3
  · refine ct (ult (b := 3) c3) (s18 _ _ _ ?_ u1 (f1.sub (by decide) (by decide)))
    rw [edg, if_pos c3]
    exact b1
  · exact cf (nlt (b := 3) (by omega)) (c_changeEndK (by omega) isL2 b1 (by omega) (fun z2 I2 A2 b2 f2 => s18 _ _ _ b2 (u1.ot f2 isL2 isL1 (by decide)) ((f1.sub (by decide) (by decide)).tr (f2.sub (by decide) (by decide)))))
end CTR

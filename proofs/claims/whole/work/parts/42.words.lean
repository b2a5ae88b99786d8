/-! THE KNOWN WORDS -/
abbrev lo (b : Int32) : Prop := 97 ≤ b ∧ b ≤ 122
theorem lo_fit {b : Int32} (h : lo b) : ev_fit 3 b = true := by
  simp only [ev_fit, Bool.and_eq_true, decide_eq_true_eq]
  have h1 := Int32.le_iff_toInt_le.mp h.1
  have h2 := Int32.le_iff_toInt_le.mp h.2
  refine ⟨Int32.le_iff_toInt_le.mpr ?_, Int32.le_iff_toInt_le.mpr ?_⟩
  · have e1 : (97 : Int32).toInt = 97 := by decide
    have e2 : (0 : Int32).toInt = 0 := by decide
    omega
  · have e1 : (122 : Int32).toInt = 122 := by decide
    have e2 : (65535 : Int32).toInt = 65535 := by decide
    omega
def ok (ws : List (List Int32)) : Prop := ws.length ≤ 150 ∧ ∀ w ∈ ws, 1 ≤ w.length ∧ w.length ≤ 24 ∧ ∀ b ∈ w, lo b
theorem ok.at {ws : List (List Int32)} {i : Nat} {w : List Int32} (h : ok ws) (hi : ws[i]? = some w) : i < 150 ∧ i < ws.length ∧ 1 ≤ w.length ∧ w.length ≤ 24 ∧ ∀ b ∈ w, lo b := by
  have hl := (List.getElem?_eq_some_iff.mp hi).1
  exact ⟨by have := h.1; omega, hl, h.2 w (List.mem_of_getElem? hi)⟩
theorem ok.snoc {ws : List (List Int32)} {u : List Int32} (h : ok ws) (hn : ws.length < 150) (h1 : 1 ≤ u.length) (h2 : u.length ≤ 24) (h3 : ∀ b ∈ u, lo b) : ok (ws ++ [u]) := by
  refine ⟨by simp; omega, fun w hw => ?_⟩
  rcases List.mem_append.mp hw with m | m
  · exact h.2 w m
  · rw [List.mem_singleton.mp m]
    exact ⟨h1, h2, h3⟩
theorem ok.take {ws : List (List Int32)} {n : Nat} (h : ok ws) : ok (ws.take n) := ⟨by have := h.1; simp; omega, fun w hw => h.2 w (List.mem_of_mem_take hw)⟩
/-- a number is KNOWN -/
abbrev kn (ws : List (List Int32)) (x : Int32) : Prop := ∃ i w, x = nI i ∧ ws[i]? = some w
theorem kn_lt {ws : List (List Int32)} {i : Nat} (h : i < ws.length) : kn ws (nI i) := ⟨i, ws[i], rfl, List.getElem?_eq_getElem h⟩
def fi (ws : List (List Int32)) (u : List Int32) : Option Nat := ws.findIdx? (· == u)
theorem fi_some {ws : List (List Int32)} {u : List Int32} {i : Nat} (h : ws[i]? = some u) (hj : ∀ j, j < i → ws[j]? ≠ some u) : fi ws u = some i := by
  unfold fi
  rw [List.findIdx?_eq_some_iff_getElem]
  obtain ⟨h1, h2⟩ := List.getElem?_eq_some_iff.mp h
  refine ⟨h1, by rw [h2]; simp, fun j hji => ?_⟩
  have := hj j hji
  intro c
  apply this
  rw [List.getElem?_eq_getElem (by omega)]
  simpa using c
theorem fi_none {ws : List (List Int32)} {u : List Int32} (hj : ∀ j, j < ws.length → ws[j]? ≠ some u) : fi ws u = none := by
  unfold fi
  rw [List.findIdx?_eq_none_iff]
  intro x hx
  obtain ⟨n, hn, rfl⟩ := List.getElem_of_mem hx
  have := hj n hn
  rw [List.getElem?_eq_getElem hn] at this
  simpa using this
theorem fi_get {ws : List (List Int32)} {u : List Int32} {i : Nat} (h : fi ws u = some i) : ws[i]? = some u := by
  unfold fi at h
  rw [List.findIdx?_eq_some_iff_getElem] at h
  obtain ⟨h1, h2, _⟩ := h
  rw [List.getElem?_eq_getElem h1]
  simpa using h2
theorem fi_no {ws : List (List Int32)} {u : List Int32} (h : fi ws u = none) : u ∉ ws := by
  unfold fi at h
  rw [List.findIdx?_eq_none_iff] at h
  intro c
  have := h u c
  simp at this
/-- the class's table -/
def cw (I A : Nat → Nat → Int32) (ws : List (List Int32)) : Prop := I 1003 4 = nI ws.length ∧ ∀ i w, ws[i]? = some w → A 1005 i = nI w.length ∧ ∀ j, j < w.length → A 1004 (i * 24 + j) = w.getD j 0
/-- the reference's table -/
def mw (I A : Nat → Nat → Int32) (ws : List (List Int32)) : Prop := I 1033 6 = nI ws.length ∧ ∀ i w, ws[i]? = some w → A 1037 i = nI w.length ∧ ∀ j, j < w.length → A 1036 (24 * i + j) = w.getD j 0
theorem cw.fx {S : List (Nat × Nat)} {T : List Nat} {I A I' A' : Nat → Nat → Int32} {ws : List (List Int32)} (h : cw I A ws) (g : fx S T I A I' A') (h1 : (1003, 4) ∉ S) (h2 : 1004 ∉ T) (h3 : 1005 ∉ T) : cw I' A' ws :=
  ⟨(g.1 _ _ h1).trans h.1, fun i w hi => ⟨(g.2 _ _ h3).trans (h.2 i w hi).1, fun j hj => (g.2 _ _ h2).trans ((h.2 i w hi).2 j hj)⟩⟩
theorem mw.fx {S : List (Nat × Nat)} {T : List Nat} {I A I' A' : Nat → Nat → Int32} {ws : List (List Int32)} (h : mw I A ws) (g : fx S T I A I' A') (h1 : (1033, 6) ∉ S) (h2 : 1036 ∉ T) (h3 : 1037 ∉ T) : mw I' A' ws :=
  ⟨(g.1 _ _ h1).trans h.1, fun i w hi => ⟨(g.2 _ _ h3).trans (h.2 i w hi).1, fun j hj => (g.2 _ _ h2).trans ((h.2 i w hi).2 j hj)⟩⟩
theorem cw.fr {L : Nat} {I A I' A' : Nat → Nat → Int32} {ws : List (List Int32)} (h : cw I A ws) (g : fr L I A I' A') (hL : ev_isL L) : cw I' A' ws := by
  unfold ev_isL at hL
  exact h.fx g (by simp) (by simp; omega) (by simp; omega)
section CTR
variable {d : Nat} {I A : Nat → Nat → Int32} {K : Int32 → (Nat → Nat → Int32) → (Nat → Nat → Int32) → Prop} {V : (Nat → Nat → Int32) → (Nat → Nat → Int32) → Prop} {L : Nat} {u w : List Int32} {ws : List (List Int32)} {i : Nat}
theorem c_knows (hw : cw I A ws) (ho : ok ws) {x : Int32} (h1 : kn ws x → K 1 I A) (h0 : ¬ kn ws x → K 0 I A) : ev_Bi d 78 0 [some (.ref 1003), some (.int x)] I A K := by
  have hl := ho.1
  refine t_W_knows_0 x ?_
  rw [hw.1]
  rcases int_cases x with hx | ⟨j, hj, rfl⟩
  · refine ct hx (h0 ?_)
    rintro ⟨i, w, rfl, hi⟩
    exact nI_pos (by have := ho.at hi; omega) hx
  · refine cf npo ?_
    by_cases c : j < ws.length
    · exact cf (nle c) (h1 (kn_lt c))
    · refine ct (ule (by omega)) (h0 ?_)
      rintro ⟨i, w, e, hi⟩
      have := ho.at hi
      rw [nI_eq hj (by omega)] at e
      omega
theorem c_knows1 (hw : cw I A ws) (ho : ok ws) (hi : ws[i]? = some w) (h1 : K 1 I A) : ev_Bi d 78 0 [some (.ref 1003), some (.int (nI i))] I A K :=
  c_knows hw ho (fun _ => h1) (fun c => absurd ⟨i, w, rfl, hi⟩ c)
theorem kn5 (ho : ok ws) : ¬ kn ws (-5) := by
  rintro ⟨i, w, e, hi⟩
  have := ho.at hi
  exact absurd e.symm nm5
theorem c_knowsOrNone (hd : 1 ≤ d) (hw : cw I A ws) (ho : ok ws) {x : Int32} (h1 : (x = -5 ∨ kn ws x) → K 1 I A) (h0 : ¬ (x = -5 ∨ kn ws x) → K 0 I A) : ev_Bi d 79 0 [some (.ref 1003), some (.int x)] I A K := by
  obtain ⟨e, rfl⟩ : ∃ e, d = e + 1 := ⟨d - 1, by omega⟩
  refine t_W_knowsOrNone_0 x ⟨fun c => h1 (.inl c), fun c => c_knows hw ho (fun g => z1 (h1 (.inr g))) (fun g => z0 (h0 (fun k => by rcases k with k | k <;> contradiction)))⟩
theorem c_sizeOf (hd : 1 ≤ d) (hw : cw I A ws) (ho : ok ws) (hi : ws[i]? = some w) (h : K (nI w.length) I A) : ev_Bi d 80 0 [some (.ref 1003), some (.int (nI i))] I A K := by
  obtain ⟨e, rfl⟩ : ∃ e, d = e + 1 := ⟨d - 1, by omega⟩
  have := ho.at hi
  refine t_W_sizeOf_0 _ (c_knows1 hw ho hi (z1 ⟨vin (by omega), ?_⟩))
  rw [ncl, (hw.2 i w hi).1]
  exact h
theorem c_sizeOf_no (hd : 1 ≤ d) (hw : cw I A ws) (ho : ok ws) {x : Int32} (hi : ¬ kn ws x) (h : K 0 I A) : ev_Bi d 80 0 [some (.ref 1003), some (.int x)] I A K := by
  obtain ⟨e, rfl⟩ : ∃ e, d = e + 1 := ⟨d - 1, by omega⟩
  exact t_W_sizeOf_0 _ (c_knows hw ho (fun c => absurd c hi) (fun _ => z0 h))
theorem c_addTo_l (hd : 1 ≤ d) (hL : ev_isL L) (ho : ok ws) (hi : ws[i]? = some w) {x2 : Int32} {f : Nat} (hu : u.length + (w.length - f) ≤ 24) {I0 A0 : Nat → Nat → Int32} (h : ∀ I' A', bu I' A' L (u ++ w.drop f) → fr L I0 A0 I' A' → V I' A') : ∀ n j I A, f ≤ j → w.length ≤ j + n → j < 1000 → cw I A ws → bu I A L (u ++ (w.take j).drop f) → fr L I0 A0 I A → ev_Bv d 82 16 [some (.ref 1003), some (.int (nI i)), some (.int x2), some (.ref L), some (.int (nI j))] I A V := by
  obtain ⟨e, rfl⟩ : ∃ e, d = e + 1 := ⟨d - 1, by omega⟩
  have hk := ho.at hi
  intro n
  induction n with
  | zero =>
    intro j I A hf hj hj1 hw hb hfr
    refine t_W_addTo_16 hL _ _ _ ⟨vin (by omega), ?_⟩
    rw [ncl, (hw.2 i w hi).1]
    refine ct (ule (by omega)) (h _ _ ?_ hfr)
    rw [List.take_of_length_le (by omega)] at hb
    exact hb
  | succ n ih =>
    intro j I A hf hj hj1 hw hb hfr
    refine t_W_addTo_16 hL _ _ _ ⟨vin (by omega), ?_⟩
    rw [ncl, (hw.2 i w hi).1]
    by_cases c : w.length ≤ j
    · refine ct (ule (by omega)) (h _ _ ?_ hfr)
      rw [List.take_of_length_le (by omega)] at hb
      exact hb
    · have e24 : nI i * 24 = nI (i * 24) := nI_mul i 24
      rw [e24, nI_add]
      refine cf (nle (by omega)) ⟨vin (by omega), ?_⟩
      rw [ncl, (hw.2 i w hi).2 j (by omega)]
      refine c_add hL hb (by simp; omega) (lo_fit (hk.2.2.2.2 _ (getD_mem (by omega)))) (fun I' A' hb' hf' => ?_)
      rw [nI_1]
      refine ih (j + 1) I' A' (by omega) (by omega) (by omega) (hw.fr hf' hL) ?_ (hfr.tr hf')
      have : u ++ (w.take (j + 1)).drop f = u ++ (w.take j).drop f ++ [w.getD j 0] := by
        rw [List.append_assoc, List.take_add_one, List.drop_append_of_le_length (by rw [List.length_take]; omega), List.getD_eq_getElem?_getD, List.getElem?_eq_getElem (by omega)]
        rfl
      rw [this]
      exact hb'
theorem c_addTo (hd : 1 ≤ d) (hL : ev_isL L) (hw : cw I A ws) (ho : ok ws) (hi : ws[i]? = some w) {f : Nat} (hf : f < 1000) (hb : bu I A L u) (hu : u.length + (w.length - f) ≤ 24) (h : ∀ I' A', bu I' A' L (u ++ w.drop f) → fr L I A I' A' → V I' A') : ev_Bv d 82 0 [some (.ref 1003), some (.int (nI i)), some (.int (nI f)), some (.ref L), none] I A V := by
  obtain ⟨e, rfl⟩ : ∃ e, d = e + 1 := ⟨d - 1, by omega⟩
  refine t_W_addTo_0 hL _ _ (c_knows1 hw ho hi (z1 (ct nge ?_)))
  refine c_addTo_l (by omega) hL ho hi hu h w.length f I A (by omega) (by omega) hf hw ?_ fr.rf
  rw [List.drop_eq_nil_of_le (by simp; omega), List.append_nil]
  exact hb
theorem c_addTo_no (hd : 1 ≤ d) (hL : ev_isL L) (hw : cw I A ws) (ho : ok ws) {x y : Int32} (hi : ¬ kn ws x) (h : V I A) : ev_Bv d 82 0 [some (.ref 1003), some (.int x), some (.int y), some (.ref L), none] I A V := by
  obtain ⟨e, rfl⟩ : ∃ e, d = e + 1 := ⟨d - 1, by omega⟩
  exact t_W_addTo_0 hL _ _ (c_knows hw ho (fun c => absurd c hi) (fun _ => z0 h))
theorem c_copyTo (hd : 2 ≤ d) (hL : ev_isL L) (hw : cw I A ws) (ho : ok ws) (hi : ws[i]? = some w) (hb : bu I A L u) (h : ∀ I' A', bu I' A' L w → fr L I A I' A' → V I' A') : ev_Bv d 81 0 [some (.ref 1003), some (.int (nI i)), some (.ref L)] I A V := by
  obtain ⟨e, rfl⟩ : ∃ e, d = e + 1 := ⟨d - 1, by omega⟩
  have hk := ho.at hi
  refine t_W_copyTo_0 hL _ (c_shorten0 hL hb (fun I' A' hb' hf' => ?_))
  refine c_addTo (f := 0) (by omega) hL (hw.fr hf' hL) ho hi (by omega) hb' (by simp; omega) (fun I2 A2 hb2 hf2 => ?_)
  rw [List.nil_append, List.drop_zero] at hb2
  exact h _ _ hb2 (hf'.tr hf2)
theorem c_copyTo_no (hd : 2 ≤ d) (hL : ev_isL L) (hw : cw I A ws) (ho : ok ws) {x : Int32} (hi : ¬ kn ws x) (hb : bu I A L u) (h : ∀ I' A', bu I' A' L [] → fr L I A I' A' → V I' A') : ev_Bv d 81 0 [some (.ref 1003), some (.int x), some (.ref L)] I A V := by
  obtain ⟨e, rfl⟩ : ∃ e, d = e + 1 := ⟨d - 1, by omega⟩
  exact t_W_copyTo_0 hL _ (c_shorten0 hL hb (fun I' A' hb' hf' => c_addTo_no (by omega) hL (hw.fr hf' hL) ho hi (h _ _ hb' hf')))
theorem c_standsAt_l (hd : 1 ≤ d) (hL : ev_isL L) (hw : cw I A ws) (ho : ok ws) (hi : ws[i]? = some w) (hb : bu I A L u) {f : Nat} (hf : f + w.length ≤ u.length) (h1 : sa u f w → K 1 I A) (h0 : ¬ sa u f w → K 0 I A) : ∀ n j, j + n = w.length → (∀ k, k < j → u.getD (f + k) 0 = w.getD k 0) → ev_Bi d 83 32 [some (.ref 1003), some (.int (nI i)), some (.ref L), some (.int (nI f)), some (.int (nI j))] I A K := by
  obtain ⟨e, rfl⟩ : ∃ e, d = e + 1 := ⟨d - 1, by omega⟩
  have hk := ho.at hi
  have h2 := hb.2.1
  have hne : w ≠ [] := by intro c; rw [c] at hk; simp at hk
  intro n
  induction n with
  | zero =>
    intro j hj hh
    refine t_W_standsAt_32 hL _ _ _ ⟨vin (by omega), ?_⟩
    rw [ncl, (hw.2 i w hi).1]
    exact ct (ule (by omega)) (h1 ((sa_iff hne).mpr ⟨hf, fun k hk => hh k (by omega)⟩))
  | succ n ih =>
    intro j hj hh
    refine t_W_standsAt_32 hL _ _ _ ⟨vin (by omega), ?_⟩
    have e24 : nI i * 24 = nI (i * 24) := nI_mul i 24
    rw [ncl, (hw.2 i w hi).1, e24, nI_add, nI_add]
    refine cf (nle (by omega)) ⟨vin (by omega), ?_⟩
    refine c_at hL hb (by omega) ?_
    rw [ncl, (hw.2 i w hi).2 j (by omega), nI_1]
    refine ⟨fun e => ih (j + 1) (by omega) (fun k hk => ?_), fun e => h0 (sa_not hne (by omega) (fun c => e c.symm))⟩
    by_cases c : k = j
    · rw [c]
      exact e.symm
    · exact hh k (by omega)
theorem c_standsAt (hd : 1 ≤ d) (hL : ev_isL L) (hw : cw I A ws) (ho : ok ws) (hi : ws[i]? = some w) (hb : bu I A L u) {f : Nat} (hf : f < 1000000) (h1 : sa u f w → K 1 I A) (h0 : ¬ sa u f w → K 0 I A) : ev_Bi d 83 0 [some (.ref 1003), some (.int (nI i)), some (.ref L), some (.int (nI f)), none] I A K := by
  obtain ⟨e, rfl⟩ : ∃ e, d = e + 1 := ⟨d - 1, by omega⟩
  have hk := ho.at hi
  have h2 := hb.2.1
  have hne : w ≠ [] := by intro c; rw [c] at hk; simp at hk
  refine t_W_standsAt_0 hL _ _ (c_knows1 hw ho hi (z1 (cf npo ⟨vin (by omega), c_size hL hb ?_⟩)))
  rw [ncl, (hw.2 i w hi).1, nI_add]
  by_cases c : f + w.length ≤ u.length
  · exact ct (ule c) (c_standsAt_l hd hL hw ho hi hb c h1 h0 w.length 0 (by omega) (fun k hk => absurd hk (by omega)))
  · exact cf (nle (by omega)) (h0 (sa_len hne (by omega)))
theorem c_standsAt_neg (hd : 1 ≤ d) (hL : ev_isL L) (hw : cw I A ws) (ho : ok ws) (hi : ws[i]? = some w) {x : Int32} (hx : x < 0) (h0 : K 0 I A) : ev_Bi d 83 0 [some (.ref 1003), some (.int (nI i)), some (.ref L), some (.int x), none] I A K := by
  obtain ⟨e, rfl⟩ : ∃ e, d = e + 1 := ⟨d - 1, by omega⟩
  exact t_W_standsAt_0 hL _ _ (c_knows1 hw ho hi (z1 (ct hx h0)))
theorem c_standsBehind (hd : 2 ≤ d) (hL : ev_isL L) (hw : cw I A ws) (ho : ok ws) (hi : ws[i]? = some w) (hb : bu I A L u) (h1 : w <:+ u → K 1 I A) (h0 : ¬ w <:+ u → K 0 I A) : ev_Bi d 84 0 [some (.ref 1003), some (.int (nI i)), some (.ref L)] I A K := by
  obtain ⟨e, rfl⟩ : ∃ e, d = e + 1 := ⟨d - 1, by omega⟩
  have hk := ho.at hi
  have h2 := hb.2.1
  refine t_W_standsBehind_0 hL _ (c_size hL hb (c_sizeOf (by omega) hw ho hi ?_))
  by_cases c : w.length ≤ u.length
  · rw [nI_sub c]
    exact c_standsAt (by omega) hL hw ho hi hb (by omega) (fun g => ⟨by decide, h1 (sf_iff.mpr ⟨c, g⟩)⟩) (fun g => ⟨by decide, h0 (fun k => g (sf_iff.mp k).2)⟩)
  · exact c_standsAt_neg (by omega) hL hw ho hi (nI_subneg (by omega) (by omega)) ⟨by decide, h0 (fun k => c k.length_le)⟩
theorem c_find_l (hd : 2 ≤ d) (hL : ev_isL L) (hw : cw I A ws) (ho : ok ws) (hb : bu I A L u) (h1 : ∀ i, fi ws u = some i → K (nI i) I A) (h0 : fi ws u = none → K (-5) I A) : ∀ n j, j + n = ws.length → (∀ k, k < j → ws[k]? ≠ some u) → ev_Bi d 85 2 [some (.ref 1003), some (.ref L), some (.int (nI j))] I A K := by
  obtain ⟨e, rfl⟩ : ∃ e, d = e + 1 := ⟨d - 1, by omega⟩
  have hk := ho.1
  have h2 := hb.2.1
  intro n
  induction n with
  | zero =>
    intro j hj hh
    refine t_W_find_2 hL _ ?_
    rw [hw.1]
    exact ct (ule (by omega)) (h0 (fi_none (fun k hk => hh k (by omega))))
  | succ n ih =>
    intro j hj hh
    have hjl : j < ws.length := by omega
    have hg : ws[j]? = some ws[j] := List.getElem?_eq_getElem hjl
    have hoj := ho.at hg
    have next : ws[j]? ≠ some u → ev_Bi (e + 1) 85 35 [some (.ref 1003), some (.ref L), some (.int (nI j))] I A K := fun c => by
      refine t_W_find_35 hL _ ?_
      rw [nI_1]
      refine ih (j + 1) (by omega) (fun k hk => ?_)
      by_cases ce : k = j
      · rw [ce]
        exact c
      · exact hh k (by omega)
    refine t_W_find_2 hL _ ?_
    rw [hw.1]
    refine cf (nle (by omega)) ⟨vin (by omega), c_size hL hb ?_⟩
    rw [ncl, (hw.2 j _ hg).1]
    by_cases cl : ws[j].length = u.length
    · refine ct (by rw [cl]) ?_
      refine c_standsAt (f := 0) (by omega) hL hw ho hg hb (by omega) (fun g => z1 (h1 j (fi_some ?_ hh))) (fun g => z0 (next (fun c => g ?_)))
      · rw [hg]
        unfold sa at g
        rw [List.drop_zero, List.take_of_length_le (by omega)] at g
        rw [g]
      · rw [hg, Option.some.injEq] at c
        unfold sa
        rw [List.drop_zero, List.take_of_length_le (by omega), c]
    · refine cf (neq cl) (next (fun c => cl ?_))
      rw [hg, Option.some.injEq] at c
      rw [c]
theorem c_find (hd : 2 ≤ d) (hL : ev_isL L) (hw : cw I A ws) (ho : ok ws) (hb : bu I A L u) (h1 : ∀ i, fi ws u = some i → K (nI i) I A) (h0 : fi ws u = none → K (-5) I A) : ev_Bi d 85 0 [some (.ref 1003), some (.ref L), none] I A K := by
  obtain ⟨e, rfl⟩ : ∃ e, d = e + 1 := ⟨d - 1, by omega⟩
  exact t_W_find_0 hL (c_find_l hd hL hw ho hb h1 h0 ws.length 0 (by omega) (fun k hk => absurd hk (by omega)))
theorem snoc_get {i : Nat} (h : (ws ++ [u])[i]? = some w) : (i < ws.length ∧ ws[i]? = some w) ∨ (i = ws.length ∧ w = u) := by
  rcases Nat.lt_or_ge i ws.length with c | c
  · rw [List.getElem?_append_left c] at h
    exact .inl ⟨c, h⟩
  · rw [List.getElem?_append_right c] at h
    right
    by_cases e : i = ws.length
    · subst e
      simp at h
      exact ⟨rfl, h.symm⟩
    · rw [List.getElem?_eq_none (by simp; omega)] at h
      cases h
theorem c_learn_l (hd : 1 ≤ d) (hL : ev_isL L) (ho : ok ws) (hu1 : u.length ≤ 24) (hn : ws.length < 150) {I0 A0 : Nat → Nat → Int32} (hw0 : cw I0 A0 ws) (h : ∀ I' A', cw I' A' (ws ++ [u]) → fx [(1003, 4)] [1004, 1005, 1006] I0 A0 I' A' → (∀ j, A' 1006 j = if j = ws.length then -5 else A0 1006 j) → K (nI ws.length) I' A') : ∀ n j I A, j + n = u.length → I 1003 4 = nI (ws.length + 1) → bu I A L u → fx [(1003, 4)] [1004, 1005, 1006] I0 A0 I A → (∀ k, A 1005 k = if k = ws.length then nI u.length else A0 1005 k) → (∀ k, A 1006 k = A0 1006 k) → (∀ k, k < ws.length * 24 → A 1004 k = A0 1004 k) → (∀ k, k < j → A 1004 (ws.length * 24 + k) = u.getD k 0) → ev_Bi d 86 54 [some (.ref 1003), some (.ref L), some (.int (nI ws.length)), some (.int (nI j))] I A K := by
  obtain ⟨e, rfl⟩ : ∃ e, d = e + 1 := ⟨d - 1, by omega⟩
  intro n
  induction n with
  | zero =>
    intro j I A hj hc hb hf h5 h6 h4 h4'
    refine t_W_learn_54 hL _ _ (c_size hL hb (ct (ule (by omega)) ⟨vin (by omega), ?_⟩))
    rw [ncl]
    refine h _ _ ⟨?_, fun i w hi => ?_⟩ (hf.tr (fx.au (by simp))) (fun j => ?_)
    · rw [hc]
      simp
    · rw [ev_upd_ne (by decide), h5 i]
      rcases snoc_get hi with ⟨c, g⟩ | ⟨rfl, rfl⟩
      · rw [if_neg (by omega)]
        refine ⟨(hw0.2 i w g).1, fun j hj => ?_⟩
        have := ho.at g
        rw [ev_upd_ne (by decide), h4 _ (by omega), (hw0.2 i w g).2 j hj]
      · refine ⟨if_pos rfl, fun j' hj' => ?_⟩
        rw [ev_upd_ne (by decide), h4' _ (by omega)]
    · rw [ev_upd_at]
      by_cases c : j = ws.length
      · rw [if_pos c, if_pos c]
      · rw [if_neg c, if_neg c, h6]
  | succ n ih =>
    intro j I A hj hc hb hf h5 h6 h4 h4'
    have hLL := hL
    unfold ev_isL at hLL
    refine t_W_learn_54 hL _ _ (c_size hL hb (cf (nle (by omega)) (c_at hL hb (by omega) ?_)))
    have e24 : nI ws.length * 24 = nI (ws.length * 24) := nI_mul _ 24
    rw [e24, nI_add, nI_1, ev_fit3_nar (hb.2.2.2 _ (getD_mem (by omega))), ncl]
    refine ⟨vin (by omega), ?_⟩
    refine ih (j + 1) I _ (by omega) hc (hb.fx (fx.au (S := []) (T := [1004]) (by simp)) (by simp) (by simp; omega)) (hf.tr (fx.au (by simp))) (fun k => ?_) (fun k => ?_) (fun k hk => ?_) (fun k hk => ?_)
    · rw [ev_upd_ne (by decide), h5]
    · rw [ev_upd_ne (by decide), h6]
    · rw [ev_upd_nk (by omega), h4 k hk]
    · rw [ev_upd_at]
      by_cases c : k = j
      · rw [if_pos (by omega), c]
      · rw [if_neg (by omega), h4' k (by omega)]
theorem c_learn (hd : 3 ≤ d) (hL : ev_isL L) (hw : cw I A ws) (ho : ok ws) (hb : bu I A L u) (h1 : ∀ i, fi ws u = some i → K (nI i) I A) (h2 : fi ws u = none → 150 ≤ ws.length → K (-4) I A) (h3 : fi ws u = none → ws.length < 150 → ∀ I' A', cw I' A' (ws ++ [u]) → fx [(1003, 4)] [1004, 1005, 1006] I A I' A' → (∀ j, A' 1006 j = if j = ws.length then -5 else A 1006 j) → K (nI ws.length) I' A') : ev_Bi d 86 0 [some (.ref 1003), some (.ref L), none, none] I A K := by
  obtain ⟨e, rfl⟩ : ∃ e, d = e + 1 := ⟨d - 1, by omega⟩
  have hk := ho.1
  refine t_W_learn_0 hL (c_find (by omega) hL hw ho hb (fun i hi => cf ?_ (h1 i hi)) (fun hi => ct rfl ?_))
  · have := ho.at (fi_get hi)
    exact nm5
  rw [hw.1]
  by_cases c : ws.length < 150
  · have hLL := hL
    unfold ev_isL at hLL
    have hb1 : bu (ev_upd I 1003 4 (nI ws.length + 1)) A L u := hb.fx (fx.iu (S := [(1003, 4)]) (T := []) (by simp)) (by simp) (by simp)
    refine ct (ult (b := 150) c) (c_size hL hb1 ⟨vin (by omega), ?_⟩)
    rw [ncl]
    refine c_learn_l (by omega) hL ho hb.2.1 c hw (h3 hi c) u.length 0 _ _ (by omega) ?_ (hb1.fx (fx.au (S := []) (T := [1005]) (by simp)) (by simp) (by simp; omega)) (fx.tr (fx.iu (by simp)) (fx.au (by simp))) (fun k => ?_) (fun k => ?_) (fun k hk => ?_) (fun k hk => absurd hk (by omega))
    · rw [ev_upd_eq, nI_1]
    · rw [ev_upd_at]
    · rw [ev_upd_ne (by decide)]
    · rw [ev_upd_ne (by decide)]
  · exact cf (nlt (b := 150) (by omega)) (h2 hi (by omega))
theorem c_isMarked (hd : 1 ≤ d) (hw : cw I A ws) (ho : ok ws) {m : Nat} (hm : m < 3) (hi : ws[i]? = some w) (h1 : A 1007 (i * 3 + m) ≠ 0 → K 1 I A) (h0 : A 1007 (i * 3 + m) = 0 → K 0 I A) : ev_Bi d 88 0 [some (.ref 1003), some (.int (nI m)), some (.int (nI i))] I A K := by
  obtain ⟨e, rfl⟩ : ∃ e, d = e + 1 := ⟨d - 1, by omega⟩
  have := ho.at hi
  have e3 : nI i * 3 = nI (i * 3) := nI_mul i 3
  refine t_W_isMarked_0 _ _ (cf npo (cf (nle (a := 3) hm) (c_knows1 hw ho hi (z1 ?_))))
  rw [e3, nI_add, ncl]
  exact ⟨vin (by omega), h0, h1⟩
theorem c_isMarked_no (hd : 1 ≤ d) (hw : cw I A ws) (ho : ok ws) {m : Nat} (hm : m < 3) {x : Int32} (hi : ¬ kn ws x) (h0 : K 0 I A) : ev_Bi d 88 0 [some (.ref 1003), some (.int (nI m)), some (.int x)] I A K := by
  obtain ⟨e, rfl⟩ : ∃ e, d = e + 1 := ⟨d - 1, by omega⟩
  exact t_W_isMarked_0 _ _ (cf npo (cf (nle (a := 3) hm) (c_knows hw ho (fun c => absurd c hi) (fun _ => z0 h0))))
theorem c_pairOf (hd : 1 ≤ d) (hw : cw I A ws) (ho : ok ws) (hi : ws[i]? = some w) (h : K (A 1006 i) I A) : ev_Bi d 90 0 [some (.ref 1003), some (.int (nI i))] I A K := by
  obtain ⟨e, rfl⟩ : ∃ e, d = e + 1 := ⟨d - 1, by omega⟩
  have := ho.at hi
  refine t_W_pairOf_0 _ (c_knows1 hw ho hi (z1 ⟨vin (by omega), ?_⟩))
  rw [ncl]
  exact h
end CTR

/-! TEXT: the reference -/
theorem li_head {t : List Int32} {nx le : Nat} (h : nx < le) (hl : lt t nx ≠ 0) : (li t (le - nx) nx)[0]? = some nx := by
  obtain ⟨n, hn⟩ : ∃ n, le - nx = n + 1 := ⟨le - nx - 1, by omega⟩
  rw [hn, li, if_neg hl]
  rfl
theorem li_nil {t : List Int32} {nx le : Nat} (hl : nx < le → lt t nx ≠ 0) (h : li t (le - nx) nx = []) : ¬ nx < le := fun c => by
  have := li_head c (hl c)
  rw [h] at this
  simp at this
section CTR
variable {d : Nat} {I A : Nat → Nat → Int32} {K : Int32 → (Nat → Nat → Int32) → (Nat → Nat → Int32) → Prop} {t tk : List Int32} {nx le e f st c pos : Nat} {ws0 ws : List (List Int32)} {rs : List HR} {m1 m2 : Nat → Bool} {pv mv : Nat → Int32} {pf : Nat → Option (List Int32)} {C : List Nat} {x3 x6 : Int32} {o9 o10 : Option Value}
theorem c_t254 (hd : 9 ≤ d) (hst : st ≤ 3) (hp : par ws0 pv pf) (hk : mrk ws0 m1 m2 mv) (h8 : ∀ b ∈ t, by8 b) (h400 : t.length ≤ 400) (hc : mst I A ws0 ws rs pv mv) (htk : tkm I A c tk) (h60 : c < 60) (har : arr A t C) (hC : C.length ≤ 400) (hf : f < C.length) (hli : C.drop f = li t (le - nx) nx) (h1 : nx < le) (h2 : le ≤ e) (h3 : e ≤ t.length) (h4 : lt t nx ≠ 0) (hF : tkp st rs m1 m2 pf ws (scn t le (le - nx) nx []).2 = none → ∀ ws' I' A', mst I' A' ws0 ws' rs pv mv → fx vS vT I A I' A' → K (-4) (ev_upd I' 1033 6 x3) A') (hN : ∀ ws' c' tk' I' A' x9 x10, ((tkp st rs m1 m2 pf ws (scn t le (le - nx) nx []).2 = some (ws', none) ∧ c' = c ∧ tk' = tk) ∨ ∃ i s, tkp st rs m1 m2 pf ws (scn t le (le - nx) nx []).2 = some (ws', some (i, s)) ∧ c' = c + 1 ∧ tk' = tk ++ [nI pos, nI nx, nI ((if (scn t le (le - nx) nx []).1 < le then (scn t le (le - nx) nx []).1 else e) - nx), nI i, nI s]) → mst I' A' ws0 ws' rs pv mv → tkm I' A' c' tk' → arr A' t C → fx vS vT I A I' A' → ev_Bi d 178 413 [some (.ref 1033), some (.int (nI st)), some (.int (nI t.length)), some (.int x3), some (.int (nI pos)), some (.int (nI e)), some (.int x6), some (.int (nI C.length)), some (.int (nI f)), some (.int x9), some (.int x10)] I' A' K) : ev_Bi d 178 254 [some (.ref 1033), some (.int (nI st)), some (.int (nI t.length)), some (.int x3), some (.int (nI pos)), some (.int (nI e)), some (.int x6), some (.int (nI C.length)), some (.int (nI f)), o9, o10] I A K := by
  obtain ⟨d, rfl⟩ : ∃ e, d = e + 1 := ⟨d - 1, by omega⟩
  obtain ⟨p1, p2, p3, p4, p5, p6⟩ := pce_ok h8 h1 h2 h3 h4
  obtain ⟨s1', s2'⟩ := scn_li (t := t) (le := le) (le - nx) nx [] (by omega) (by simp)
  have e24 : 24 - ([] : List Int32).length = 24 := rfl
  rw [e24, ← hli] at s1' s2'
  rw [List.nil_append] at s1'
  rw [List.drop_drop] at s2'
  generalize (scn t le (le - nx) nx []).1 = nx' at p1 p2 p3 s2' hN
  generalize (scn t le (le - nx) nx []).2 = v at p4 p5 p6 s1' hF hN
  have hvl : v.length = min 24 (C.length - f) := by
    rw [s1', List.length_map, List.length_take, List.length_drop]
  have hvk : ∀ k, k < v.length → A 1055 (f + k) = v.getD k 0 := fun k hk => by
    have hfk : f + k < C.length := by omega
    have hg : C[f + k]? = some C[f + k] := List.getElem?_eq_getElem hfk
    rw [(har _ _ hg).1, s1', List.getD_eq_getElem?_getD, List.getElem?_map, List.getElem?_take, if_pos (by omega), List.getElem?_drop, hg]
    rfl
  have hf0 : A 1056 f = nI nx := by
    have h0 := li_head h1 h4
    rw [← hli, List.getElem?_drop, Nat.add_zero] at h0
    exact (har _ _ h0).2
  have hokv : okw v := ⟨p4, p5, p6⟩
  /- what is laid -/
  have s378 : ∀ en I1 A1 x10, en = (if nx' < le then nx' else e) → (∀ ws' i, lrn ws v = some (ws', i) → m2 i = false) → rb I1 A1 v → fx [(1033, 21)] [1048] I A I1 A1 → ev_Bi (d + 1) 178 378 [some (.ref 1033), some (.int (nI st)), some (.int (nI t.length)), some (.int x3), some (.int (nI pos)), some (.int (nI e)), some (.int x6), some (.int (nI C.length)), some (.int (nI f)), some (.int (nI en)), some (.int x10)] I1 A1 K := fun en I1 A1 x10 een hm r1 f1 => by
    refine t_M_text_378 _ _ _ _ _ _ _ _ _ _ ⟨vin (by omega), vin (by omega), ?_⟩
    have hen : nx ≤ en ∧ en ≤ 400 := by
      rw [een]
      split <;> omega
    rw [ncl, f1.2 1056 f (by decide), hf0, nI_sub hen.1]
    refine c_layM (by omega) hst hp hk (hc.fx f1 (by decide) (by decide)) r1 hokv (htk.fx f1 (by decide) (by decide)) h60 hm (fun e0 ws' I2 A2 c2 f2 => z0 (hF e0 _ _ _ c2 ((f1.sub (by decide) (by decide)).tr f2))) (fun ws' i s e0 I2 A2 c2 t2 f2 => z1 (hN ws' (c + 1) _ I2 A2 _ _ (.inr ⟨i, s, e0, rfl, by rw [← een]⟩) c2 t2 ((har.fx f1 (by decide) (by decide)).fx f2 (by decide) (by decide)) ((f1.sub (by decide) (by decide)).tr (f2.sub (by decide) (by decide)))))
  have fnd : ∀ en I1 A1, en = (if nx' < le then nx' else e) → rb I1 A1 v → fx [(1033, 21)] [1048] I A I1 A1 → ev_Bi d 128 0 [some (.ref 1033), some (.int 0), some (.int (nI v.length)), none, none, none] I1 A1 (fun z3 I1 A2 => ((z3 < 0 → ev_Bi (d + 1) 178 378 [some (.ref 1033), some (.int (nI st)), some (.int (nI t.length)), some (.int x3), some (.int (nI pos)), some (.int (nI e)), some (.int x6), some (.int (nI C.length)), some (.int (nI f)), some (.int (nI en)), some (.int z3)] I1 A2 K) ∧ (¬ z3 < 0 → (vp_in z3 150 ∧ ((((A2 1038 (z3 : Int32).toNatClampNeg) &&& 2) = 0 → ev_Bi (d + 1) 178 378 [some (.ref 1033), some (.int (nI st)), some (.int (nI t.length)), some (.int x3), some (.int (nI pos)), some (.int (nI e)), some (.int x6), some (.int (nI C.length)), some (.int (nI f)), some (.int (nI en)), some (.int z3)] I1 A2 K) ∧ (¬ ((A2 1038 (z3 : Int32).toNatClampNeg) &&& 2) = 0 → ev_Bi (d + 1) 178 413 [some (.ref 1033), some (.int (nI st)), some (.int (nI t.length)), some (.int x3), some (.int (nI pos)), some (.int (nI e)), some (.int x6), some (.int (nI C.length)), some (.int (nI f)), some (.int (nI en)), some (.int z3)] I1 A2 K)))))) := fun en I1 A1 een r1 f1 => by
    have hc1 := hc.fx f1 (by decide) (by decide)
    obtain ⟨a1, a2, a3, a4, a5, a6, a7⟩ := hc1
    refine c_findM0 a2 a1 r1 (fun i hi => ?_) (fun hi => ct (by decide) (s378 en I1 A1 _ een (fun ws' i e0 => ?_) r1 f1))
    · have hget := fi_get hi
      have hai := a2.at hget
      have el : lrn ws v = some (ws, i) := by rw [lrn, hi]
      refine cf npo ⟨vin (by omega), ?_⟩
      rw [ncl, a7 i hai.2.1]
      refine ⟨fun q => s378 en I1 A1 _ een (fun ws' i' e0 => ?_) r1 f1, fun q => hN ws c tk I1 A1 _ _ (.inl ⟨?_, rfl, rfl⟩) (hc.fx f1 (by decide) (by decide)) (htk.fx f1 (by decide) (by decide)) (har.fx f1 (by decide) (by decide)) (f1.sub (by decide) (by decide))⟩
      · rw [el] at e0
        simp at e0
        rw [← e0.2]
        exact (hk.2 i hai.1).2.mp q
      · have em : m2 i = true := by
          cases hz : m2 i with
          | true => rfl
          | false => exact absurd ((hk.2 i hai.1).2.mpr hz) q
        rw [tkp, el]
        simp only
        rw [if_pos em]
    · rw [lrn, hi] at e0
      simp only at e0
      split at e0
      · simp at e0
        have hle := a4.length_le
        have h0 := hk.1 i (by omega)
        refine (hk.2 i (by omega)).2.mp ?_
        rw [h0]
        decide
      · exact absurd e0 (by simp)
  /- the letters of the piece -/
  have l287 : ∀ n k A1 o10, k + n = v.length → (∀ q, q < k → A1 1048 q = v.getD q 0) → fx [(1033, 21)] [1048] I A (ev_upd I 1033 21 (nI v.length)) A1 → ev_Bi (d + 1) 178 287 [some (.ref 1033), some (.int (nI st)), some (.int (nI t.length)), some (.int x3), some (.int (nI pos)), some (.int (nI e)), some (.int x6), some (.int (nI C.length)), some (.int (nI f)), some (.int (nI k)), o10] (ev_upd I 1033 21 (nI v.length)) A1 K := by
    intro n
    induction n with
    | zero =>
      intro k A1 o10 hk' hA hf1
      have r1 : rb (ev_upd I 1033 21 (nI v.length)) A1 v := ⟨ev_upd_eq, by omega, fun j hj => hA j (by omega)⟩
      refine t_M_text_287 _ _ _ _ _ _ _ _ _ _ ?_
      rw [r1.1, nI_add]
      refine ct (ule (by omega)) ?_
      by_cases ce : C.length ≤ f + v.length
      · refine ct (ule ce) (fnd e _ _ ?_ r1 hf1)
        rw [if_neg]
        refine li_nil p1.2.2.2 ?_
        rw [s2']
        exact List.drop_eq_nil_of_le (by omega)
      · have h24 : v.length = 24 := by omega
        have hnx : nx' < le := by
          by_cases q : nx' < le
          · exact q
          · have e0 : le - nx' = 0 := by omega
            rw [e0, li] at s2'
            have := congrArg List.length s2'
            rw [List.length_drop] at this
            simp at this
            omega
        have h0 := li_head hnx (p1.2.2.2 hnx)
        rw [s2', List.getElem?_drop, Nat.add_zero] at h0
        have ea : A1 1056 (f + v.length) = nI nx' := by
          rw [hf1.2 1056 _ (by decide), h24]
          exact (har _ _ h0).2
        refine cf (nle (by omega)) ⟨vin (by omega), ?_⟩
        rw [ncl, ea]
        exact fnd nx' _ _ (by rw [if_pos hnx]) r1 hf1
    | succ n ih =>
      intro k A1 o10 hk' hA hf1
      refine t_M_text_287 _ _ _ _ _ _ _ _ _ _ ?_
      rw [ev_upd_eq, nI_add f k, nI_1 k, ncl (a := k), ncl (a := f + k), hf1.2 1055 (f + k) (by decide), hvk k (by omega)]
      refine cf (nle (by omega)) ⟨vin (by omega), vin (by omega), ih (k + 1) _ _ (by omega) (fun q hq => ?_) (hf1.tr (fx.au (by decide)))⟩
      rw [ev_upd_at]
      by_cases cq : q = k
      · rw [if_pos cq, cq]
      · rw [if_neg cq]
        exact hA q (by omega)
  refine t_M_text_254 _ _ _ _ _ _ _ _ _ _ (cf (nle (by omega)) ?_)
  rw [htk.1, nI_sub (by omega)]
  refine cf (nle (a := 60) (by omega)) (t_M_small_0 _ _ ?_)
  have go := l287 v.length 0 A o10 (by omega) (fun q hq => by omega) (fx.iu (by decide))
  by_cases cm : C.length - f ≤ 24
  · have ev : v.length = C.length - f := by omega
    rw [ev] at go
    exact ct (ule (b := 24) cm) go
  · have ev : v.length = 24 := by omega
    rw [ev] at go
    exact cf (nle (b := 24) (by omega)) go
theorem c_t425 (hd : 1 ≤ d) (htk : tkm I A c tk) (h60 : c ≤ 60) {x1 x2 x5 : Int32} {o6 o7 o8 : Option Value} (h : ∀ I' A', I' 1033 27 = nI c → I' 1033 30 = nI pos → (∀ j, j < 5 * c → A' 1053 j = tk.getD j 0) → fx [(1033, 27), (1033, 30)] [1053] I A I' A' → K (nI c) I' A') : ev_Bi d 178 425 [some (.ref 1033), some (.int x1), some (.int x2), some (.int x3), some (.int (nI pos)), some (.int x5), o6, o7, o8, o9, o10] I A K := by
  obtain ⟨d, rfl⟩ : ∃ e, d = e + 1 := ⟨d - 1, by omega⟩
  obtain ⟨k1, k2, k3⟩ := htk
  refine t_M_text_425 _ _ _ _ _ _ _ _ _ _ ?_
  rw [k1]
  have e5 : 5 * nI c = nI (5 * c) := nI_mul 5 c
  have loop : ∀ n k A1, k + n = 5 * c → (∀ j, j < k → A1 1053 j = tk.getD j 0) → fx [] [1053] I A I A1 → ev_Bi (d + 1) 178 436 [some (.ref 1033), some (.int x1), some (.int x2), some (.int x3), some (.int (nI pos)), some (.int x5), some (.int (nI k)), o7, o8, o9, o10] (ev_upd I 1033 27 (nI c)) A1 K := by
    intro n
    induction n with
    | zero =>
      intro k A1 hk hA hf
      refine t_M_text_436 _ _ _ _ _ _ _ _ _ _ ?_
      rw [ev_upd_eq, e5]
      refine ct (ule (by omega)) (h _ _ ?_ ev_upd_eq (fun j hj => hA j (by omega)) ?_)
      · rw [ev_upd_nk (by decide), ev_upd_eq]
      · exact (fx.tr (fx.iu (by decide)) (fx.iu (by decide)) : fx [(1033, 27), (1033, 30)] [1053] I A (ev_upd (ev_upd I 1033 27 (nI c)) 1033 30 (nI pos)) A).tr ⟨fun _ _ _ => rfl, fun x j hx => hf.2 x j hx⟩
    | succ n ih =>
      intro k A1 hk hA hf
      refine t_M_text_436 _ _ _ _ _ _ _ _ _ _ ?_
      rw [ev_upd_eq, e5, ncl, nI_1, hf.2 1054 _ (by decide), k3 k (by omega)]
      refine cf (nle (by omega)) ⟨vin (by omega), vin (by omega), ih (k + 1) _ (by omega) (fun j hj => ?_) (hf.tr (fx.au (by decide)))⟩
      rw [ev_upd_at]
      by_cases cj : j = k
      · rw [if_pos cj, cj]
      · rw [if_neg cj]
        exact hA j (by omega)
  exact loop (5 * c) 0 A (by omega) (fun j hj => by omega) fx.rf
theorem txt_end {n : Nat} (h : ¬ nx < le) (hp : t.length ≤ e) : txt t st rs m1 m2 pf n nx le e ws c pos tk = some (ws, c, pos, tk) := by
  cases n with
  | zero => rfl
  | succ n =>
    have e1 : t.length - e = 0 := by omega
    have e2 : ra t e = e := by
      unfold ra
      rw [e1, skp]
    have e3 : re t e = e := by
      unfold re
      rw [e2, e1, ext]
    have en : npc t nx le e = none := by
      rw [npc, if_neg h, if_neg (by rw [e2, e3]; omega)]
    rw [txt, en]
    split <;> rfl
theorem txt_full {n : Nat} (h : 60 ≤ c) : txt t st rs m1 m2 pf n nx le e ws c pos tk = some (ws, c, pos, tk) := by
  cases n with
  | zero => rfl
  | succ n => rw [txt, if_pos h]
theorem txt_skip {n : Nat} (h : ¬ nx < le) (hp : e < t.length) (hl : lt t e = 0) : txt t st rs m1 m2 pf n nx le e ws c pos tk = txt t st rs m1 m2 pf n nx le (e + 1) ws c pos tk := by
  cases n with
  | zero => rfl
  | succ n =>
    have e2 : ra t e = ra t (e + 1) := by
      obtain ⟨k, hk⟩ : ∃ k, t.length - e = k + 1 := ⟨t.length - e - 1, by omega⟩
      have hk2 : t.length - (e + 1) = k := by omega
      unfold ra
      rw [hk, skp, if_pos hl, hk2]
    have e3 : re t e = re t (e + 1) := by
      unfold re
      rw [e2]
    have en : npc t nx le e = npc t nx le (e + 1) := by
      rw [npc, npc, if_neg h, if_neg h, e2, e3]
    rw [txt, txt, en]
theorem txt_run {n : Nat} (h : ¬ nx < le) (hp : e < t.length) (hl : lt t e ≠ 0) : txt t st rs m1 m2 pf n nx le e ws c pos tk = txt t st rs m1 m2 pf n e (lend t e (ext t (t.length - e) e)) (ext t (t.length - e) e) ws c pos tk := by
  cases n with
  | zero => rfl
  | succ n =>
    have e2 : ra t e = e := by
      obtain ⟨k, hk⟩ : ∃ k, t.length - e = k + 1 := ⟨t.length - e - 1, by omega⟩
      unfold ra
      rw [hk, skp, if_neg hl]
    have e3 : re t e = ext t (t.length - e) e := by
      unfold re
      rw [e2]
    have hex := ext_ok (t := t) (t.length - e) e (by omega)
    have hlt : e < ext t (t.length - e) e := by
      by_cases c : e < ext t (t.length - e) e
      · exact c
      · have : ext t (t.length - e) e = e := by omega
        have h4 := hex.2.2.2
        rw [this] at h4
        exact absurd (.inl hl) h4
    have hle := lend_ok (t := t) (a := e) (e := ext t (t.length - e) e) (by omega)
    have en : npc t nx le e = npc t e (lend t e (ext t (t.length - e) e)) (ext t (t.length - e) e) := by
      rw [npc, npc, if_neg h, e2, e3, if_pos hlt, if_pos (hle.2.2 hlt)]
    rw [txt, txt, en]
end CTR

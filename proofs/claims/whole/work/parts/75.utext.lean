/-! TEXT, side by side -/
section CTR
variable {d : Nat} {I A : Nat → Nat → Int32} {K : Int32 → (Nat → Nat → Int32) → (Nat → Nat → Int32) → Prop} {t : List Int32} {st : Nat} {ws0 : List (List Int32)} {rs : List HR} {m1 m2 : Nat → Bool} {pv mv : Nat → Int32} {pf : Nat → Option (List Int32)} {x3 : Int32}
theorem c_textM_l (hd : 9 ≤ d) (hst : st ≤ 3) (hp : par ws0 pv pf) (hk : mrk ws0 m1 m2 mv) (h8 : ∀ b ∈ t, by8 b) (h400 : t.length ≤ 400) {I0 A0 : Nat → Nat → Int32} (htm : tmx A0 t) (R : Option (List (List Int32) × Nat × Nat × List Int32)) (hF : R = none → ∀ ws' I' A', mst I' A' ws0 ws' rs pv mv → fx vS vT I0 A0 I' A' → K (-4) (ev_upd I' 1033 6 x3) A') (hS : ∀ ws' c' pos' tk', R = some (ws', c', pos', tk') → c' ≤ 60 → ∀ I' A', mst I' A' ws0 ws' rs pv mv → tkm I' A' c' tk' → fx vS vT I0 A0 I' A' → ∀ x5 o6 o7 o8 o9 o10, ev_Bi d 178 425 [some (.ref 1033), some (.int (nI st)), some (.int (nI t.length)), some (.int x3), some (.int (nI pos')), some (.int x5), o6, o7, o8, o9, o10] I' A' K) : ∀ n, (∀ f nx le e C ws c pos tk I A x6 o9 o10, c ≤ 60 → ci t nx le e → C.drop f = li t (le - nx) nx → C.length ≤ 400 → f ≤ C.length + 24 → arr A t C → mst I A ws0 ws rs pv mv → tkm I A c tk → fx vS vT I0 A0 I A → t.length ≤ (if nx < le then nx else e) + n → txt t st rs m1 m2 pf n nx le e ws c pos tk = R → ev_Bi d 178 254 [some (.ref 1033), some (.int (nI st)), some (.int (nI t.length)), some (.int x3), some (.int (nI pos)), some (.int (nI e)), some (.int x6), some (.int (nI C.length)), some (.int (nI f)), o9, o10] I A K) ∧ ∀ m p nx le ws c pos tk I A o6 o7 o8 o9 o10, p + m = t.length → ¬ nx < le → c ≤ 60 → mst I A ws0 ws rs pv mv → tkm I A c tk → fx vS vT I0 A0 I A → t.length ≤ p + n → txt t st rs m1 m2 pf n nx le p ws c pos tk = R → ev_Bi d 178 38 [some (.ref 1033), some (.int (nI st)), some (.int (nI t.length)), some (.int x3), some (.int (nI pos)), some (.int (nI p)), o6, o7, o8, o9, o10] I A K := by
  have hd' := hd
  obtain ⟨d, rfl⟩ : ∃ e, d = e + 1 := ⟨d - 1, by omega⟩
  intro n
  induction n with
  | zero =>
    have p38 : ∀ m p nx le ws c pos tk I A o6 o7 o8 o9 o10, p + m = t.length → ¬ nx < le → c ≤ 60 → mst I A ws0 ws rs pv mv → tkm I A c tk → fx vS vT I0 A0 I A → t.length ≤ p + 0 → txt t st rs m1 m2 pf 0 nx le p ws c pos tk = R → ev_Bi (d + 1) 178 38 [some (.ref 1033), some (.int (nI st)), some (.int (nI t.length)), some (.int x3), some (.int (nI pos)), some (.int (nI p)), o6, o7, o8, o9, o10] I A K := by
      intro m p nx le ws c pos tk I A o6 o7 o8 o9 o10 hm hn h60 hc htk hf hfu hR
      exact t_M_text_38 _ _ _ _ _ _ _ _ _ _ (ct (ule (by omega)) (hS _ _ _ _ hR.symm h60 _ _ hc htk hf _ _ _ _ _ _))
    refine ⟨?_, p38⟩
    intro f nx le e C ws c pos tk I A x6 o9 o10 h60 hci hli hC hfC har hc htk hf hfu hR
    have hn : ¬ nx < le := fun q => by
      rw [if_pos q] at hfu
      have := lt_in (hci.2.2.2 q)
      omega
    rw [if_neg hn] at hfu
    have e0 : le - nx = 0 := by omega
    rw [e0, li] at hli
    have hl0 := congrArg List.length hli
    rw [List.length_drop] at hl0
    simp at hl0
    exact t_M_text_254 _ _ _ _ _ _ _ _ _ _ (ct (ule (by omega)) (t_M_text_422 _ _ _ _ _ _ _ _ _ _ (p38 0 e nx le ws c pos tk I A _ _ _ _ _ (by have := hci.2.2.1; omega) hn h60 hc htk hf (by omega) hR)))
  | succ n ih =>
    /- a run that has letters left -/
    have a254 : ∀ f nx le e C ws c pos tk I A x6 o9 o10, c < 60 → nx < le → ci t nx le e → C.drop f = li t (le - nx) nx → C.length ≤ 400 → arr A t C → mst I A ws0 ws rs pv mv → tkm I A c tk → fx vS vT I0 A0 I A → t.length ≤ nx + (n + 1) → txt t st rs m1 m2 pf (n + 1) nx le e ws c pos tk = R → ev_Bi (d + 1) 178 254 [some (.ref 1033), some (.int (nI st)), some (.int (nI t.length)), some (.int x3), some (.int (nI pos)), some (.int (nI e)), some (.int x6), some (.int (nI C.length)), some (.int (nI f)), o9, o10] I A K := by
      intro f nx le e C ws c pos tk I A x6 o9 o10 h60 hn hci hli hC har hc htk hf hfu hR
      have h4 := hci.2.2.2 hn
      have hfl : f < C.length := by
        by_cases q : f < C.length
        · exact q
        · have h0 := li_head hn h4
          rw [← hli, List.drop_eq_nil_of_le (by omega)] at h0
          simp at h0
      obtain ⟨p1, p2, p3, p4, p5, p6⟩ := pce_ok h8 hn hci.2.1 hci.2.2.1 h4
      obtain ⟨s1', s2'⟩ := scn_li (t := t) (le := le) (le - nx) nx [] (by omega) (by simp)
      have e24 : 24 - ([] : List Int32).length = 24 := rfl
      rw [e24, ← hli, List.drop_drop] at s2'
      have en : npc t nx le e = some (pce t nx le e) := if_pos hn
      rw [txt, if_neg (by omega), en] at hR
      unfold pce at hR
      simp only at hR
      refine c_t254 hd' hst hp hk h8 h400 hc htk h60 har hC hfl hli hn hci.2.1 hci.2.2.1 h4 (fun e0 ws' I' A' c1 f1 => hF (by rw [e0] at hR; exact hR.symm) _ _ _ c1 (hf.tr f1)) (fun ws' c' tk' I' A' x9 x10 hcase c1 t1 a1 f1 => t_M_text_413 _ _ _ _ _ _ _ _ _ _ ?_)
      have e1 : nI f + 24 = nI (f + 24) := nI_add f 24
      rw [nI_1, e1]
      have hfu2 : t.length ≤ (if (scn t le (le - nx) nx []).1 < le then (scn t le (le - nx) nx []).1 else e) + n := by
        have := hci.2.1
        split <;> omega
      rcases hcase with ⟨e0, rfl, rfl⟩ | ⟨i, s, e0, rfl, rfl⟩
      · rw [e0] at hR
        simp only at hR
        exact ih.1 (f + 24) _ le e C ws' _ (pos + 1) _ I' A' _ _ _ (by omega) p1 s2'.symm hC (by omega) a1 c1 t1 (hf.tr f1) hfu2 hR
      · rw [e0] at hR
        simp only at hR
        exact ih.1 (f + 24) _ le e C ws' _ (pos + 1) _ I' A' _ _ _ (by omega) p1 s2'.symm hC (by omega) a1 c1 t1 (hf.tr f1) hfu2 hR
    have p38 : ∀ m p nx le ws c pos tk I A o6 o7 o8 o9 o10, p + m = t.length → ¬ nx < le → c ≤ 60 → mst I A ws0 ws rs pv mv → tkm I A c tk → fx vS vT I0 A0 I A → t.length ≤ p + (n + 1) → txt t st rs m1 m2 pf (n + 1) nx le p ws c pos tk = R → ev_Bi (d + 1) 178 38 [some (.ref 1033), some (.int (nI st)), some (.int (nI t.length)), some (.int x3), some (.int (nI pos)), some (.int (nI p)), o6, o7, o8, o9, o10] I A K := by
      intro m
      induction m with
      | zero =>
        intro p nx le ws c pos tk I A o6 o7 o8 o9 o10 hm hn h60 hc htk hf hfu hR
        rw [txt_end hn (by omega)] at hR
        exact t_M_text_38 _ _ _ _ _ _ _ _ _ _ (ct (ule (by omega)) (hS _ _ _ _ hR.symm h60 _ _ hc htk hf _ _ _ _ _ _))
      | succ m ihm =>
        intro p nx le ws c pos tk I A o6 o7 o8 o9 o10 hm hn h60 hc htk hf hfu hR
        have t1 : tmx A t := htm.fx hf (by decide)
        refine t_M_text_38 _ _ _ _ _ _ _ _ _ _ (cf (nle (by omega)) ?_)
        rw [htk.1]
        by_cases c60 : 60 ≤ c
        · rw [txt_full c60] at hR
          exact ct (ule (a := 60) c60) (hS _ _ _ _ hR.symm h60 _ _ hc htk hf _ _ _ _ _ _)
        refine cf (nle (a := 60) (by omega)) (c_letterAtM (by omega) t1 h8 (by omega) ⟨fun z => ?_, fun z => ?_⟩)
        · rw [txt_skip hn (by omega) z] at hR
          rw [nI_1]
          exact ihm (p + 1) nx le ws c pos tk I A _ _ _ _ _ (by omega) hn h60 hc htk hf (by omega) hR
        · rw [txt_run hn (by omega) z] at hR
          have hex := ext_ok (t := t) (t.length - p) p (by omega)
          have hle := lend_ok (t := t) (a := p) (e := ext t (t.length - p) p) (by omega)
          have hlt : p < ext t (t.length - p) p := by
            by_cases q : p < ext t (t.length - p) p
            · exact q
            · have e1 : ext t (t.length - p) p = p := by omega
              have h4 := hex.2.2.2
              rw [e1] at h4
              exact absurd (.inl z) h4
          refine c_t72 (by omega) t1 h8 (by omega) z (fun A' x6 a1 f1 => ?_)
          have f1' : fx vS vT I A I A' := f1.sub (by decide) (by decide)
          have hl := (li_ok (t := t) (lend t p (ext t (t.length - p) p) - p) p).1
          exact a254 0 p _ _ _ ws c pos tk I A' _ _ _ (by omega) (hle.2.2 hlt) ⟨by omega, hle.2.1, hex.2.1, fun _ => z⟩ (List.drop_zero ..) (by omega) a1 (hc.fx f1 (by decide) (by decide)) (htk.fx f1 (by decide) (by decide)) (hf.tr f1') (by omega) hR
    refine ⟨?_, p38⟩
    intro f nx le e C ws c pos tk I A x6 o9 o10 h60 hci hli hC hfC har hc htk hf hfu hR
    by_cases hn : nx < le
    · rw [if_pos hn] at hfu
      by_cases c60 : 60 ≤ c
      · have h4 := hci.2.2.2 hn
        rw [txt_full c60] at hR
        have s38 : ∀ o6 o7 o8 o9 o10, ev_Bi (d + 1) 178 38 [some (.ref 1033), some (.int (nI st)), some (.int (nI t.length)), some (.int x3), some (.int (nI pos)), some (.int (nI e)), o6, o7, o8, o9, o10] I A K := fun o6 o7 o8 o9 o10 => by
          have s425 := fun x5 o6 o7 o8 o9 o10 => hS _ _ _ _ hR.symm h60 _ _ hc htk hf x5 o6 o7 o8 o9 o10
          refine t_M_text_38 _ _ _ _ _ _ _ _ _ _ ⟨fun _ => s425 _ _ _ _ _ _, fun _ => ?_⟩
          rw [htk.1]
          exact ct (ule (a := 60) c60) (s425 _ _ _ _ _ _)
        refine t_M_text_254 _ _ _ _ _ _ _ _ _ _ ⟨fun _ => t_M_text_422 _ _ _ _ _ _ _ _ _ _ (s38 _ _ _ _ _), fun _ => ?_⟩
        rw [htk.1]
        exact ct (ule (a := 60) c60) (t_M_text_422 _ _ _ _ _ _ _ _ _ _ (s38 _ _ _ _ _))
      · exact a254 f nx le e C ws c pos tk I A _ _ _ (by omega) hn hci hli hC har hc htk hf hfu hR
    · rw [if_neg hn] at hfu
      have e0 : le - nx = 0 := by omega
      rw [e0, li] at hli
      have hl0 := congrArg List.length hli
      rw [List.length_drop] at hl0
      simp at hl0
      exact t_M_text_254 _ _ _ _ _ _ _ _ _ _ (ct (ule (by omega)) (t_M_text_422 _ _ _ _ _ _ _ _ _ _ (p38 (t.length - e) e nx le ws c pos tk I A _ _ _ _ _ (by have := hci.2.2.1; omega) hn h60 hc htk hf hfu hR)))
end CTR

/-! THE CUTTER -/
def ltr (c : Int32) : Int32 := if 65 ≤ c ∧ c ≤ 90 then c + 32 else if 97 ≤ c ∧ c ≤ 122 then c else 0
abbrev lt (t : List Int32) (j : Nat) : Int32 := ltr (t.getD j 0)
abbrev jn (t : List Int32) (j : Nat) : Prop := t.getD j 0 = 39 ∧ 1 ≤ j ∧ lt t (j - 1) ≠ 0 ∧ lt t (j + 1) ≠ 0
abbrev ir (t : List Int32) (j : Nat) : Prop := lt t j ≠ 0 ∨ jn t j
theorem by8_num {c : Int32} (h : by8 c) : ∃ n : Nat, n < 256 ∧ c = nI n := by
  rcases int_cases c with q | ⟨j, hj, rfl⟩
  · exact absurd h.1 (Int32.not_le.mpr q)
  · refine ⟨j, ?_, rfl⟩
    by_cases q : j ≤ 255
    · omega
    · exact absurd h.2 (nle (b := 255) (by omega))
set_option maxRecDepth 100000 in
theorem ltr_all : ∀ n : Fin 256, (ltr (nI n.val) ≠ 0 → lo (ltr (nI n.val))) ∧ ev_fit 3 (nI n.val) = true ∧ ev_fit 3 (ltr (nI n.val)) = true ∧ ((65 : Int32) ≤ nI n.val ∧ nI n.val ≤ 90 → ev_i2c ((nI n.val - 65) + 97) = ltr (nI n.val) ∧ 97 ≤ nI n.val + 32 ∧ nI n.val + 32 ≤ 122) := by decide +kernel
theorem by8_get {t : List Int32} (h : ∀ b ∈ t, by8 b) (j : Nat) : by8 (t.getD j 0) := by
  by_cases c : j < t.length
  · exact h _ (getD_mem c)
  · rw [getD_out (by omega)]
    decide
theorem lt_lo {t : List Int32} (h : ∀ b ∈ t, by8 b) {j : Nat} (g : lt t j ≠ 0) : lo (lt t j) := by
  obtain ⟨n, hn, e⟩ := by8_num (by8_get h j)
  have := (ltr_all ⟨n, hn⟩).1
  unfold lt at g ⊢
  rw [e] at g ⊢
  exact this g
theorem lt_in {t : List Int32} {j : Nat} (g : lt t j ≠ 0) : j < t.length := by
  by_cases c : j < t.length
  · exact c
  · exfalso
    apply g
    unfold lt
    rw [getD_out (by omega)]
    decide
theorem ir_in {t : List Int32} {j : Nat} (g : ir t j) : j < t.length := by
  rcases g with g | g
  · exact lt_in g
  · by_cases c : j < t.length
    · exact c
    · have := g.1
      rw [getD_out (by omega)] at this
      exact absurd this (by decide)
def skp (t : List Int32) : Nat → Nat → Nat
  | 0, p => p
  | n + 1, p => if lt t p = 0 then skp t n (p + 1) else p
def ext (t : List Int32) : Nat → Nat → Nat
  | 0, e => e
  | n + 1, e => if ir t e then ext t n (e + 1) else e
def lend (t : List Int32) (a e : Nat) : Nat := if a + 2 < e ∧ jn t (e - 2) ∧ lt t (e - 1) = 115 then e - 2 else e
def scn (t : List Int32) (le : Nat) : Nat → Nat → List Int32 → Nat × List Int32
  | 0, nx, acc => (nx, acc)
  | n + 1, nx, acc => if acc.length < 24 ∨ lt t nx = 0 then scn t le n (nx + 1) (if lt t nx = 0 then acc else acc ++ [lt t nx]) else (nx, acc)
abbrev ra (t : List Int32) (e : Nat) : Nat := skp t (t.length - e) e
abbrev re (t : List Int32) (e : Nat) : Nat := ext t (t.length - ra t e) (ra t e)
def pce (t : List Int32) (nx le e : Nat) : Nat × Nat × List Int32 × Nat × Nat × Nat := (nx, (if (scn t le (le - nx) nx []).1 < le then (scn t le (le - nx) nx []).1 else e) - nx, (scn t le (le - nx) nx []).2, (scn t le (le - nx) nx []).1, le, e)
def npc (t : List Int32) (nx le e : Nat) : Option (Nat × Nat × List Int32 × Nat × Nat × Nat) :=
  if nx < le then some (pce t nx le e) else if ra t e < re t e then some (pce t (ra t e) (lend t (ra t e) (re t e)) (re t e)) else none
theorem skp_ok {t : List Int32} : ∀ n p, p + n = t.length → p ≤ skp t n p ∧ skp t n p ≤ t.length ∧ (skp t n p < t.length → lt t (skp t n p) ≠ 0)
  | 0, p, h => ⟨Nat.le_refl _, by rw [skp]; omega, fun q => by rw [skp] at q; omega⟩
  | n + 1, p, h => by
    rw [skp]
    split
    · obtain ⟨a, b, c⟩ := skp_ok (t := t) n (p + 1) (by omega)
      exact ⟨by omega, b, c⟩
    · rename_i q
      exact ⟨Nat.le_refl _, by omega, fun _ => q⟩
theorem ext_ok {t : List Int32} : ∀ n e, e + n = t.length → e ≤ ext t n e ∧ ext t n e ≤ t.length ∧ (∀ j, e ≤ j → j < ext t n e → ir t j) ∧ ¬ ir t (ext t n e)
  | 0, e, h => ⟨Nat.le_refl _, by rw [ext]; omega, fun j a b => by rw [ext] at b; omega, fun q => by have := ir_in q; rw [ext] at this; omega⟩
  | n + 1, e, h => by
    rw [ext]
    split
    · rename_i q
      obtain ⟨a, b, c, d⟩ := ext_ok (t := t) n (e + 1) (by omega)
      refine ⟨by omega, b, fun j j1 j2 => ?_, d⟩
      by_cases ce : j = e
      · rw [ce]
        exact q
      · exact c j (by omega) j2
    · rename_i q
      exact ⟨Nat.le_refl _, by omega, fun j a b => by omega, q⟩
theorem lend_ok {t : List Int32} {a e : Nat} (h : a ≤ e) : a ≤ lend t a e ∧ lend t a e ≤ e ∧ (a < e → a < lend t a e) := by
  unfold lend
  split <;> omega
theorem scn_ok {t : List Int32} (ht : ∀ b ∈ t, by8 b) {le : Nat} : ∀ n nx acc, nx + n = le → acc.length ≤ 24 → (∀ b ∈ acc, lo b) → nx ≤ (scn t le n nx acc).1 ∧ (scn t le n nx acc).1 ≤ le ∧ acc.length ≤ (scn t le n nx acc).2.length ∧ (scn t le n nx acc).2.length ≤ 24 ∧ (∀ b ∈ (scn t le n nx acc).2, lo b) ∧ ((scn t le n nx acc).1 < le → lt t (scn t le n nx acc).1 ≠ 0)
  | 0, nx, acc, h, h1, h2 => by
    rw [scn]
    exact ⟨Nat.le_refl _, by omega, Nat.le_refl _, h1, h2, fun q => by simp at q; omega⟩
  | n + 1, nx, acc, h, h1, h2 => by
    rw [scn]
    split
    · rename_i q
      by_cases c : lt t nx = 0
      · rw [if_pos c]
        obtain ⟨a, b, c, d, e, f⟩ := scn_ok ht (le := le) n (nx + 1) acc (by omega) h1 h2
        exact ⟨by omega, b, c, d, e, f⟩
      · rw [if_neg c]
        have hq : acc.length < 24 := by
          rcases q with q | q
          · exact q
          · exact absurd q c
        obtain ⟨a, b, c', d, e, f⟩ := scn_ok ht (le := le) n (nx + 1) (acc ++ [lt t nx]) (by omega) (by simp; omega) (fun b hb => by
          rcases List.mem_append.mp hb with hb | hb
          · exact h2 b hb
          · rw [List.mem_singleton] at hb
            rw [hb]
            exact lt_lo ht c)
        rw [List.length_append] at c'
        exact ⟨by omega, b, by omega, d, e, f⟩
    · rename_i q
      refine ⟨Nat.le_refl _, by omega, Nat.le_refl _, h1, h2, fun _ c => q (.inr c)⟩
abbrev ci (t : List Int32) (nx le e : Nat) : Prop := nx ≤ t.length ∧ le ≤ e ∧ e ≤ t.length ∧ (nx < le → lt t nx ≠ 0)
theorem ra_ok {t : List Int32} {e : Nat} (h : e ≤ t.length) : e ≤ ra t e ∧ ra t e ≤ re t e ∧ re t e ≤ t.length ∧ (ra t e < t.length → lt t (ra t e) ≠ 0) := by
  have h1 := skp_ok (t := t) (t.length - e) e (by omega)
  have h3 : ra t e ≤ t.length := h1.2.1
  have h2 := ext_ok (t := t) (t.length - ra t e) (ra t e) (by omega)
  exact ⟨h1.1, h2.1, h2.2.1, h1.2.2⟩
/-- what a piece is -/
theorem pce_ok {t : List Int32} (ht : ∀ b ∈ t, by8 b) {nx le e : Nat} (h1 : nx < le) (h2 : le ≤ e) (h3 : e ≤ t.length) (h4 : lt t nx ≠ 0) : ci t (scn t le (le - nx) nx []).1 le e ∧ nx < (scn t le (le - nx) nx []).1 ∧ (scn t le (le - nx) nx []).1 ≤ le ∧ 1 ≤ (scn t le (le - nx) nx []).2.length ∧ (scn t le (le - nx) nx []).2.length ≤ 24 ∧ ∀ b ∈ (scn t le (le - nx) nx []).2, lo b := by
  obtain ⟨n, hn⟩ : ∃ n, le - nx = n + 1 := ⟨le - nx - 1, by omega⟩
  have e1 : scn t le (le - nx) nx [] = scn t le n (nx + 1) [lt t nx] := by
    rw [hn, scn, if_pos (.inl (by simp)), if_neg h4]
    rfl
  obtain ⟨a, b, c, d, f, g⟩ := scn_ok ht (le := le) n (nx + 1) [lt t nx] (by omega) (by simp) (fun b hb => by
    rw [List.mem_singleton] at hb
    rw [hb]
    exact lt_lo ht h4)
  rw [← e1] at a b c d f g
  refine ⟨⟨by omega, h2, h3, g⟩, by omega, b, ?_, d, f⟩
  simp at c
  omega
section CTR
variable {d : Nat} {I A : Nat → Nat → Int32} {K : Int32 → (Nat → Nat → Int32) → (Nat → Nat → Int32) → Prop} {V : (Nat → Nat → Int32) → (Nat → Nat → Int32) → Prop} {t u : List Int32} {nx le e j : Nat}
theorem c_byteAt (ht : tc I A t) (h8 : ∀ b ∈ t, by8 b) (hj : j < 2147483648) (h : K (t.getD j 0) I A) : ev_Bi d 63 0 [some (.ref 1001), some (.int (nI j))] I A K := by
  have hl := ht.2.1
  refine t_T_byteAt_0 _ (cf npo ?_)
  rw [ht.1]
  by_cases c : t.length ≤ j
  · refine ct (ule c) ?_
    rw [getD_out c] at h
    exact h
  · refine cf (nle (by omega)) ⟨vin (by omega), ?_⟩
    rw [ncl, ht.2.2 j (by omega)]
    obtain ⟨n, hn, e⟩ := by8_num (by8_get h8 j)
    refine ⟨?_, h⟩
    rw [e]
    exact (ltr_all ⟨n, hn⟩).2.1
theorem c_letterAt (hd : 1 ≤ d) (ht : tc I A t) (h8 : ∀ b ∈ t, by8 b) (hj : j < 2147483648) (h : K (lt t j) I A) : ev_Bi d 64 0 [some (.ref 1001), some (.int (nI j)), none] I A K := by
  obtain ⟨d, rfl⟩ : ∃ e, d = e + 1 := ⟨d - 1, by omega⟩
  refine t_T_letterAt_0 _ (c_byteAt ht h8 hj ?_)
  obtain ⟨n, hn, e⟩ := by8_num (by8_get h8 j)
  have ha := ltr_all ⟨n, hn⟩
  unfold lt at h
  rw [e] at h ⊢
  have s27 : ¬ ((65 : Int32) ≤ nI n ∧ nI n ≤ 90) → ev_Bi (d + 1) 64 27 [some (.ref 1001), some (.int (nI j)), some (.int (nI n))] I A K := fun c => by
    unfold ltr at h
    rw [if_neg c] at h
    refine t_T_letterAt_27 _ _ ⟨fun q => ?_, fun q => ⟨fun q2 => ?_, fun q2 => ⟨ha.2.1, ?_⟩⟩⟩
    · rw [if_neg (fun k => absurd k.1 (Int32.not_le.mpr q))] at h
      exact h
    · rw [if_neg (fun k => absurd k.2 (Int32.not_le.mpr q2))] at h
      exact h
    · rw [if_pos ⟨Int32.not_lt.mp q, Int32.not_lt.mp q2⟩] at h
      exact h
  refine ⟨fun q => s27 (fun k => absurd k.1 (Int32.not_le.mpr q)), fun q => ⟨fun q2 => s27 (fun k => absurd k.2 (Int32.not_le.mpr q2)), fun q2 => ?_⟩⟩
  have hb := ha.2.2.2 ⟨Int32.not_lt.mp q, Int32.not_lt.mp q2⟩
  simp only at hb
  rw [hb.1]
  exact ⟨ha.2.2.1, h⟩
theorem c_letterAt_neg (hd : 1 ≤ d) {x : Int32} (hx : x < 0) (h : K 0 I A) : ev_Bi d 64 0 [some (.ref 1001), some (.int x), none] I A K := by
  obtain ⟨d, rfl⟩ : ∃ e, d = e + 1 := ⟨d - 1, by omega⟩
  exact t_T_letterAt_0 _ (t_T_byteAt_0 _ (ct hx (ct (by decide) (t_T_letterAt_27 _ _ (ct (by decide) h)))))
theorem c_joinsAt (hd : 2 ≤ d) (ht : tc I A t) (h8 : ∀ b ∈ t, by8 b) (hj : j < 1000000) (h1 : jn t j → K 1 I A) (h0 : ¬ jn t j → K 0 I A) : ev_Bi d 65 0 [some (.ref 1001), some (.int (nI j))] I A K := by
  obtain ⟨d, rfl⟩ : ∃ e, d = e + 1 := ⟨d - 1, by omega⟩
  refine t_T_joinsAt_0 _ (c_byteAt ht h8 (by omega) ⟨fun q => ?_, fun q => h0 (fun k => q k.1)⟩)
  by_cases c0 : j = 0
  · have e1 : nI j - 1 < 0 := by rw [c0]; decide
    exact c_letterAt_neg (by omega) e1 (z0 (h0 (fun k => absurd k.2.1 (by omega))))
  · have e1 : nI j - 1 = nI (j - 1) := nI_sub (b := 1) (by omega)
    rw [e1]
    refine c_letterAt (by omega) ht h8 (by omega) ⟨fun q2 => h0 (fun k => k.2.2.1 q2), fun q2 => ?_⟩
    rw [nI_1]
    exact c_letterAt (by omega) ht h8 (by omega) ⟨fun q3 => h0 (fun k => k.2.2.2 q3), fun q3 => h1 ⟨q, by omega, q2, q3⟩⟩
/-- the cutter stands so -/
abbrev cu (I : Nat → Nat → Int32) (nx le e : Nat) : Prop := I 1027 3 = nI nx ∧ I 1027 4 = nI le ∧ I 1027 5 = nI e
abbrev lS : List (Nat × Nat) := [(1027, 3), (1027, 4), (1027, 5)]
abbrev uS : List (Nat × Nat) := [(1027, 1), (1027, 2), (1027, 3), (1027, 4), (1027, 5), (1028, 1)]
abbrev uT : List Nat := [1029]
theorem c_findLetters (hd : 3 ≤ d) (ht : tc I A t) (h8 : ∀ b ∈ t, by8 b) (he : e ≤ t.length) (hc : I 1027 5 = nI e) (h1 : ra t e < re t e → ∀ I', cu I' (ra t e) (lend t (ra t e) (re t e)) (re t e) → fx lS [] I A I' A → K 1 I' A) (h0 : ¬ ra t e < re t e → ∀ I', fx lS [] I A I' A → K 0 I' A) : ev_Bi d 13 0 [some (.ref 1027), some (.ref 1001), none] I A K := by
  obtain ⟨d, rfl⟩ : ∃ e, d = e + 1 := ⟨d - 1, by omega⟩
  have hl := ht.2.1
  have hra := ra_ok he
  have fin : ∀ I1 x4 lv, I1 1027 3 = nI (ra t e) → I1 1027 5 = nI (re t e) → lv = lend t (ra t e) (re t e) → x4 = nI lv → fx lS [] I A I1 A → (((nI (re t e) ≤ nI (ra t e)) → K 0 (ev_upd I1 1027 4 x4) A) ∧ (¬ (nI (re t e) ≤ nI (ra t e)) → K 1 (ev_upd I1 1027 4 x4) A)) := fun I1 x4 lv a1 a2 a3 a4 f1 => by
    have f2 : fx lS [] I A (ev_upd I1 1027 4 x4) A := f1.tr (fx.iu (by decide))
    by_cases c : ra t e < re t e
    · refine cf (nle c) (h1 c _ ⟨?_, ?_, ?_⟩ f2)
      · rw [ev_upd_nk (by decide), a1]
      · rw [ev_upd_eq, a4, a3]
      · rw [ev_upd_nk (by decide), a2]
    · exact ct (ule (by omega)) (h0 c _ f2)
  have s97 : ∀ I1 o2, I1 1027 3 = nI (ra t e) → I1 1027 5 = nI (re t e) → fx lS [] I A I1 A → ev_Bi (d + 1) 13 97 [some (.ref 1027), some (.ref 1001), o2] I1 A K := fun I1 o2 a1 a2 f1 => by
    have t1 : tc I1 A t := ht.fx f1 (by decide) (by decide)
    have s142 : ¬ (ra t e + 2 < re t e ∧ jn t (re t e - 2) ∧ lt t (re t e - 1) = 115) → ev_Bi (d + 1) 13 142 [some (.ref 1027), some (.ref 1001), o2] I1 A K := fun q => by
      refine t_C_findLetters_142 _ ?_
      rw [a1, a2]
      refine fin I1 _ _ a1 a2 ?_ rfl f1
      rw [lend, if_neg q]
    refine t_C_findLetters_97 _ ?_
    rw [a1, a2]
    by_cases c : ra t e + 2 < re t e
    · have e2 : nI (re t e) - 2 = nI (re t e - 2) := nI_sub (b := 2) (by omega)
      have e1 : nI (re t e) - 1 = nI (re t e - 1) := nI_sub (b := 1) (by omega)
      rw [e2]
      refine cf (nle (by omega)) (c_joinsAt (by omega) t1 h8 (by omega) (fun q => z1 ?_) (fun q => z0 (s142 (fun k => q k.2.1))))
      rw [a2, e1]
      refine c_letterAt (by omega) t1 h8 (by omega) ⟨fun q2 => ?_, fun q2 => s142 (fun k => q2 k.2.2)⟩
      rw [a1, a2, e2]
      refine fin I1 _ _ a1 a2 ?_ rfl f1
      rw [lend, if_pos ⟨c, q, q2⟩]
    · refine ct ?_ (s142 (fun k => c k.1))
      by_cases c2 : 2 ≤ re t e
      · have e2 : nI (re t e) - 2 = nI (re t e - 2) := nI_sub (b := 2) c2
        rw [e2]
        exact ule (by omega)
      · have : nI (re t e) - nI 2 < 0 := nI_subneg (by omega) (by omega)
        exact Int32.le_of_lt (Int32.lt_of_lt_of_le this nge)
  have l51 : ∀ n p I1 o2, p + n = t.length → I1 1027 3 = nI (ra t e) → I1 1027 5 = nI p → ext t n p = re t e → fx lS [] I A I1 A → ev_Bi (d + 1) 13 51 [some (.ref 1027), some (.ref 1001), o2] I1 A K := by
    intro n
    induction n with
    | zero =>
      intro p I1 o2 hp a1 a2 ee f1
      have t1 : tc I1 A t := ht.fx f1 (by decide) (by decide)
      refine t_C_findLetters_51 _ (t_T_size_0 ?_)
      rw [t1.1, a2]
      refine ct (ule (by omega)) (s97 I1 _ a1 ?_ f1)
      rw [a2, ← ee]
      rfl
    | succ n ih =>
      intro p I1 o2 hp a1 a2 ee f1
      have t1 : tc I1 A t := ht.fx f1 (by decide) (by decide)
      rw [ext] at ee
      have go : ir t p → ev_Bi (d + 1) 13 84 [some (.ref 1027), some (.ref 1001), o2] I1 A K := fun q => by
        rw [if_pos q] at ee
        refine t_C_findLetters_84 _ ?_
        rw [a2, nI_1]
        exact ih (p + 1) _ _ (by omega) (by rw [ev_upd_nk (by decide), a1]) ev_upd_eq ee (f1.tr (fx.iu (by decide)))
      have stop : ¬ ir t p → ev_Bi (d + 1) 13 97 [some (.ref 1027), some (.ref 1001), o2] I1 A K := fun q => by
        rw [if_neg q] at ee
        exact s97 I1 _ a1 (by rw [a2, ee]) f1
      refine t_C_findLetters_51 _ (t_T_size_0 ?_)
      rw [t1.1, a2]
      refine cf (nle (by omega)) (c_letterAt (by omega) t1 h8 (by omega) ⟨fun q => ?_, fun q => go (.inl q)⟩)
      rw [a2]
      exact c_joinsAt (by omega) t1 h8 (by omega) (fun q2 => z1 (go (.inr q2))) (fun q2 => z0 (stop (fun k => k.elim (fun k => k q) q2)))
  have s43 : ∀ I1 o2, I1 1027 3 = nI (ra t e) → fx lS [] I A I1 A → ev_Bi (d + 1) 13 43 [some (.ref 1027), some (.ref 1001), o2] I1 A K := fun I1 o2 a1 f1 => by
    refine t_C_findLetters_43 _ ?_
    rw [a1]
    exact l51 (t.length - ra t e) (ra t e) _ _ (by omega) (by rw [ev_upd_nk (by decide), a1]) ev_upd_eq rfl (f1.tr (fx.iu (by decide)))
  have l8 : ∀ n p I1 o2, p + n = t.length → I1 1027 3 = nI p → skp t n p = ra t e → fx lS [] I A I1 A → ev_Bi (d + 1) 13 8 [some (.ref 1027), some (.ref 1001), o2] I1 A K := by
    intro n
    induction n with
    | zero =>
      intro p I1 o2 hp a1 ee f1
      have t1 : tc I1 A t := ht.fx f1 (by decide) (by decide)
      refine t_C_findLetters_8 _ (t_T_size_0 ?_)
      rw [t1.1, a1]
      refine ct (ule (by omega)) (s43 I1 _ ?_ f1)
      rw [a1, ← ee]
      rfl
    | succ n ih =>
      intro p I1 o2 hp a1 ee f1
      have t1 : tc I1 A t := ht.fx f1 (by decide) (by decide)
      rw [skp] at ee
      refine t_C_findLetters_8 _ (t_T_size_0 ?_)
      rw [t1.1, a1]
      refine cf (nle (by omega)) (c_letterAt (by omega) t1 h8 (by omega) ⟨fun q => ?_, fun q => s43 I1 _ ?_ f1⟩)
      · rw [if_pos q] at ee
        rw [a1, nI_1]
        exact ih (p + 1) _ _ (by omega) ev_upd_eq ee (f1.tr (fx.iu (by decide)))
      · rw [if_neg q] at ee
        rw [a1, ee]
  refine t_C_findLetters_0 ?_
  rw [hc]
  exact l8 (t.length - e) e _ _ (by omega) ev_upd_eq rfl (fx.iu (by decide))
end CTR

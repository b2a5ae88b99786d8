/-! TEXT: the runs of letters in the reference -/
def li (t : List Int32) : Nat → Nat → List Nat
  | 0, _ => []
  | n + 1, j => if lt t j = 0 then li t n (j + 1) else j :: li t n (j + 1)
theorem li_snoc {t : List Int32} : ∀ n j, li t (n + 1) j = li t n j ++ (if lt t (j + n) = 0 then [] else [j + n])
  | 0, j => by
    rw [li, li, li, Nat.add_zero]
    rfl
  | n + 1, j => by
    rw [li, li_snoc n (j + 1)]
    conv => rhs; rw [li]
    have e : j + 1 + n = j + (n + 1) := by omega
    rw [e]
    split
    · rfl
    · rfl
theorem li_ok {t : List Int32} : ∀ n j, (li t n j).length ≤ n ∧ ∀ x ∈ li t n j, j ≤ x ∧ x < j + n ∧ lt t x ≠ 0
  | 0, j => ⟨by simp [li], fun x hx => by simp [li] at hx⟩
  | n + 1, j => by
    obtain ⟨h1, h2⟩ := li_ok (t := t) n (j + 1)
    rw [li]
    split
    · exact ⟨by omega, fun x hx => by have := h2 x hx; exact ⟨by omega, by omega, this.2.2⟩⟩
    · rename_i q
      refine ⟨by simp; omega, fun x hx => ?_⟩
      rcases List.mem_cons.mp hx with rfl | hx
      · exact ⟨Nat.le_refl _, by omega, q⟩
      · have := h2 x hx
        exact ⟨by omega, by omega, this.2.2⟩
theorem scn_li {t : List Int32} {le : Nat} : ∀ n nx acc, nx + n = le → acc.length ≤ 24 → (scn t le n nx acc).2 = acc ++ ((li t n nx).take (24 - acc.length)).map (lt t) ∧ li t (le - (scn t le n nx acc).1) (scn t le n nx acc).1 = (li t n nx).drop (24 - acc.length)
  | 0, nx, acc, h, h1 => by
    have e : le - nx = 0 := by omega
    rw [scn]
    simp only [e, li]
    simp
  | n + 1, nx, acc, h, h1 => by
    rw [scn, li]
    split
    · rename_i q
      by_cases c : lt t nx = 0
      · rw [if_pos c, if_pos c]
        exact scn_li n (nx + 1) acc (by omega) h1
      · rw [if_neg c, if_neg c]
        have hq : acc.length < 24 := by
          rcases q with q | q
          · exact q
          · exact absurd q c
        obtain ⟨a, b⟩ := scn_li (t := t) (le := le) n (nx + 1) (acc ++ [lt t nx]) (by omega) (by simp; omega)
        have e : 24 - acc.length = (24 - (acc ++ [lt t nx]).length) + 1 := by
          rw [List.length_append]
          simp
          omega
        rw [e, List.take_succ_cons, List.drop_succ_cons, a, b]
        refine ⟨?_, rfl⟩
        rw [List.map_cons, List.append_assoc]
        rfl
    · rename_i q
      have c : ¬ lt t nx = 0 := fun k => q (.inr k)
      have e : 24 - acc.length = 0 := by
        have : ¬ acc.length < 24 := fun k => q (.inl k)
        omega
      rw [e, List.take_zero, List.drop_zero, List.map_nil, List.append_nil]
      refine ⟨rfl, ?_⟩
      have e2 : le - nx = n + 1 := by omega
      show li t (le - nx) nx = _
      rw [e2, li]
def arr (A : Nat → Nat → Int32) (t : List Int32) (C : List Nat) : Prop := ∀ i x, C[i]? = some x → A 1055 i = lt t x ∧ A 1056 i = nI x
theorem arr.fx {S : List (Nat × Nat)} {T : List Nat} {I A I' A' : Nat → Nat → Int32} {t : List Int32} {C : List Nat} (h : arr A t C) (g : fx S T I A I' A') (h1 : 1055 ∉ T) (h2 : 1056 ∉ T) : arr A' t C := fun i x hi => by
  rw [g.2 1055 _ h1, g.2 1056 _ h2]
  exact h i x hi
abbrev wT : List Nat := [1055, 1056]
section CTR
variable {d : Nat} {I A : Nat → Nat → Int32} {K : Int32 → (Nat → Nat → Int32) → (Nat → Nat → Int32) → Prop} {t : List Int32} {x1 x3 x4 : Int32} {o9 o10 : Option Value}
theorem c_t197 (hd : 1 ≤ d) {a m : Nat} {x5 : Int32} (hm : m ≤ 400) (ha : a ≤ 400) (h : ∀ A', arr A' t (li t m a) → fx [] wT I A I A' → ev_Bi d 178 254 [some (.ref 1033), some (.int x1), some (.int (nI t.length)), some (.int x3), some (.int x4), some (.int x5), some (.int (nI m)), some (.int (nI (li t m a).length)), some (.int 0), o9, o10] I A' K) : ∀ n k A1, k + n = m → arr A1 t (li t k a) → (∀ i, k ≤ i → i < m → A1 1055 i = lt t (a + i) ∧ A1 1056 i = nI (a + i)) → fx [] wT I A I A1 → ev_Bi d 178 197 [some (.ref 1033), some (.int x1), some (.int (nI t.length)), some (.int x3), some (.int x4), some (.int x5), some (.int (nI m)), some (.int (nI (li t k a).length)), some (.int (nI k)), o9, o10] I A1 K := by
  obtain ⟨d, rfl⟩ : ∃ e, d = e + 1 := ⟨d - 1, by omega⟩
  intro n
  induction n with
  | zero =>
    intro k A1 hk h1 h2 hf
    have : k = m := by omega
    subst this
    exact t_M_text_197 _ _ _ _ _ _ _ _ _ _ (ct (ule (by omega)) (h A1 h1 hf))
  | succ n ih =>
    intro k A1 hk h1 h2 hf
    have hl := (li_ok (t := t) k a).1
    have hs := li_snoc (t := t) k a
    obtain ⟨q1, q2⟩ := h2 k (by omega) (by omega)
    refine t_M_text_197 _ _ _ _ _ _ _ _ _ _ (cf (nle (by omega)) ⟨vin (by omega), ?_⟩)
    rw [ncl (a := k), q1, q2]
    refine ⟨fun z => t_M_text_245 _ _ _ _ _ _ _ _ _ _ ?_, fun z => ⟨vin (by omega), vin (by omega), vin (by omega), vin (by omega), t_M_text_245 _ _ _ _ _ _ _ _ _ _ ?_⟩⟩
    · rw [if_pos z, List.append_nil] at hs
      rw [nI_1]
      have := ih (k + 1) A1 (by omega) (by rw [hs]; exact h1) (fun i i1 i2 => h2 i (by omega) i2) hf
      rw [hs] at this
      exact this
    · rw [if_neg z] at hs
      rw [nI_1 k, nI_1 (li t k a).length, ncl]
      have hlen : (li t (k + 1) a).length = (li t k a).length + 1 := by
        rw [hs]
        simp
      have hf2 : fx [] wT I A1 I (ev_upd (ev_upd A1 1055 (li t k a).length (lt t (a + k))) 1056 (li t k a).length (nI (a + k))) := fx.tr (fx.au (by decide)) (fx.au (by decide))
      have := ih (k + 1) _ (by omega) (by
        rw [hs]
        intro i x hi
        rw [ev_upd_ne (a := 1056) (b := 1055) (by decide), ev_upd_at, ev_upd_at, ev_upd_ne (a := 1055) (b := 1056) (by decide)]
        by_cases ci : i = (li t k a).length
        · rw [ci, List.getElem?_append_right (by omega), Nat.sub_self] at hi
          have : a + k = x := by simpa using hi
          rw [if_pos ci, if_pos ci, this]
          exact ⟨rfl, rfl⟩
        · have hil := (List.getElem?_eq_some_iff.mp hi).1
          simp at hil
          rw [List.getElem?_append_left (by omega)] at hi
          rw [if_neg ci, if_neg ci]
          exact h1 i x hi) (fun i i1 i2 => by
        rw [ev_upd_ne (a := 1056) (b := 1055) (by decide), ev_upd_at, ev_upd_at, ev_upd_ne (a := 1055) (b := 1056) (by decide), if_neg (by omega), if_neg (by omega)]
        exact h2 i (by omega) i2) (hf.tr hf2)
      rw [hlen] at this
      exact this
theorem c_t156 (hd : 1 ≤ d) {a e : Nat} (he : e ≤ 400) (hae : a < e) (hir : ∀ j, a ≤ j → j < e → ir t j) {o7 o8 : Option Value} (hA : ∀ i, i < e - a → A 1055 i = lt t (a + i) ∧ A 1056 i = nI (a + i)) (h : ∀ A' x6, arr A' t (li t (lend t a e - a) a) → fx [] wT I A I A' → ev_Bi d 178 254 [some (.ref 1033), some (.int x1), some (.int (nI t.length)), some (.int x3), some (.int x4), some (.int (nI e)), some (.int x6), some (.int (nI (li t (lend t a e - a) a).length)), some (.int 0), o9, o10] I A' K) : ev_Bi d 178 156 [some (.ref 1033), some (.int x1), some (.int (nI t.length)), some (.int x3), some (.int x4), some (.int (nI e)), some (.int (nI (e - a))), o7, o8, o9, o10] I A K := by
  have hd' := hd
  obtain ⟨d, rfl⟩ : ∃ e, d = e + 1 := ⟨d - 1, by omega⟩
  have hle := lend_ok (t := t) (a := a) (e := e) (by omega)
  have s191 : ∀ m, m = lend t a e - a → ev_Bi (d + 1) 178 191 [some (.ref 1033), some (.int x1), some (.int (nI t.length)), some (.int x3), some (.int x4), some (.int (nI e)), some (.int (nI m)), o7, o8, o9, o10] I A K := fun m em => by
    subst em
    refine t_M_text_191 _ _ _ _ _ _ _ _ _ _ ?_
    refine c_t197 hd' (a := a) (m := lend t a e - a) (by omega) (by omega) (fun A' h1 h2 => h A' _ h1 h2) (lend t a e - a) 0 A (by omega) (fun i x hi => by simp [li] at hi) (fun i i1 i2 => hA i (by omega)) fx.rf
  have keep : ¬ (a + 2 < e ∧ jn t (e - 2) ∧ lt t (e - 1) = 115) → e - a = lend t a e - a := fun q => by rw [lend, if_neg q]
  refine t_M_text_156 _ _ _ _ _ _ _ _ _ _ ?_
  by_cases c : e - a ≤ 2
  · exact ct (ule (b := 2) c) (s191 _ (keep (fun q => by omega)))
  have e1 : nI (e - a) - 1 = nI (e - a - 1) := nI_sub (b := 1) (by omega)
  have e2 : nI (e - a) - 2 = nI (e - a - 2) := nI_sub (b := 2) (by omega)
  have e3 : nI (e - a) + (-2) = nI (e - a - 2) := by
    rw [← e2]
    exact (Int32.sub_eq_add_neg ..).symm
  have a1 : a + (e - a - 1) = e - 1 := by omega
  have a2 : a + (e - a - 2) = e - 2 := by omega
  rw [e1, e2, e3, ncl, ncl, (hA _ (by omega)).1, (hA _ (by omega)).1, a1, a2]
  have hj : lt t (e - 2) = 0 ↔ jn t (e - 2) := by
    constructor
    · intro q
      rcases hir (e - 2) (by omega) (by omega) with k | k
      · exact absurd q k
      · exact k
    · intro q
      unfold lt ltr
      rw [q.1]
      decide
  refine cf (nle (b := 2) (by omega)) ⟨vin (by omega), fun q => ⟨vin (by omega), fun q2 => s191 _ ?_, fun q2 => s191 _ (keep (fun k => q2 (hj.mpr k.2.1)))⟩, fun q => s191 _ (keep (fun k => q k.2.2))⟩
  rw [lend, if_pos ⟨by omega, hj.mp q2, q⟩]
  omega
theorem c_t72 (hd : 2 ≤ d) (ht : tmx A t) (h8 : ∀ b ∈ t, by8 b) {a : Nat} (ha : a < t.length) (hla : lt t a ≠ 0) {o7 o8 : Option Value} (h : ∀ A' x6, arr A' t (li t (lend t a (ext t (t.length - a) a) - a) a) → fx [] wT I A I A' → ev_Bi d 178 254 [some (.ref 1033), some (.int x1), some (.int (nI t.length)), some (.int x3), some (.int x4), some (.int (nI (ext t (t.length - a) a))), some (.int x6), some (.int (nI (li t (lend t a (ext t (t.length - a) a) - a) a).length)), some (.int 0), o9, o10] I A' K) : ev_Bi d 178 72 [some (.ref 1033), some (.int x1), some (.int (nI t.length)), some (.int x3), some (.int x4), some (.int (nI a)), some (.int 0), o7, o8, o9, o10] I A K := by
  obtain ⟨d, rfl⟩ : ∃ e, d = e + 1 := ⟨d - 1, by omega⟩
  have hl := ht.1
  have hex := ext_ok (t := t) (t.length - a) a (by omega)
  have hlt : a < ext t (t.length - a) a := by
    by_cases c : a < ext t (t.length - a) a
    · exact c
    · have : ext t (t.length - a) a = a := by omega
      have h4 := hex.2.2.2
      rw [this] at h4
      exact absurd (.inl hla) h4
  have loop : ∀ n q A1, q + n = t.length → a ≤ q → ext t n q = ext t (t.length - a) a → (∀ i, i < q - a → A1 1055 i = lt t (a + i) ∧ A1 1056 i = nI (a + i)) → fx [] wT I A I A1 → ev_Bi (d + 1) 178 72 [some (.ref 1033), some (.int x1), some (.int (nI t.length)), some (.int x3), some (.int x4), some (.int (nI q)), some (.int (nI (q - a))), o7, o8, o9, o10] I A1 K := by
    intro n
    have stop : ∀ q A1, q = ext t (t.length - a) a → (∀ i, i < q - a → A1 1055 i = lt t (a + i) ∧ A1 1056 i = nI (a + i)) → fx [] wT I A I A1 → ev_Bi (d + 1) 178 156 [some (.ref 1033), some (.int x1), some (.int (nI t.length)), some (.int x3), some (.int x4), some (.int (nI q)), some (.int (nI (q - a))), o7, o8, o9, o10] I A1 K := fun q A1 eq hA hf => by
      subst eq
      exact c_t156 (by omega) (by omega) hlt (fun j j1 j2 => hex.2.2.1 j j1 j2) hA (fun A' x6 h1 h2 => h A' x6 h1 (hf.tr h2))
    induction n with
    | zero =>
      intro q A1 hq haq ee hA hf
      have t1 : tmx A1 t := ht.fx hf (by decide)
      have z : lt t q = 0 := by
        by_cases c : lt t q = 0
        · exact c
        · have := lt_in c
          omega
      refine t_M_text_72 _ _ _ _ _ _ _ _ _ _ (c_letterAtM (by omega) t1 h8 (by omega) ?_)
      rw [z]
      exact z0 (ct (ule (by omega)) (stop q A1 ee hA hf))
    | succ n ih =>
      intro q A1 hq haq ee hA hf
      have t1 : tmx A1 t := ht.fx hf (by decide)
      rw [ext] at ee
      have go : ir t q → ev_Bi (d + 1) 178 124 [some (.ref 1033), some (.int x1), some (.int (nI t.length)), some (.int x3), some (.int x4), some (.int (nI q)), some (.int (nI (q - a))), o7, o8, o9, o10] I A1 K := fun g => by
        rw [if_pos g] at ee
        refine t_M_text_124 _ _ _ _ _ _ _ _ _ _ (c_letterAtM (by omega) t1 h8 (by omega) ⟨vin (by omega), vin (by omega), ?_⟩)
        have e3 : q - a + 1 = q + 1 - a := by omega
        rw [nI_1 q, nI_1 (q - a), ncl, e3]
        have hf2 : fx [] wT I A1 I (ev_upd (ev_upd A1 1055 (q - a) (lt t q)) 1056 (q - a) (nI q)) := fx.tr (fx.au (by decide)) (fx.au (by decide))
        refine ih (q + 1) _ (by omega) (by omega) ee (fun i hi => ?_) (hf.tr hf2)
        rw [ev_upd_ne (a := 1056) (b := 1055) (by decide), ev_upd_at, ev_upd_at, ev_upd_ne (a := 1055) (b := 1056) (by decide)]
        by_cases ci : i = q - a
        · have e4 : a + i = q := by omega
          rw [if_pos ci, if_pos ci, e4]
          exact ⟨rfl, rfl⟩
        · rw [if_neg ci, if_neg ci]
          exact hA i (by omega)
      have stop' : ¬ ir t q → ev_Bi (d + 1) 178 156 [some (.ref 1033), some (.int x1), some (.int (nI t.length)), some (.int x3), some (.int x4), some (.int (nI q)), some (.int (nI (q - a))), o7, o8, o9, o10] I A1 K := fun g => by
        rw [if_neg g] at ee
        exact stop q A1 ee hA hf
      refine t_M_text_72 _ _ _ _ _ _ _ _ _ _ (c_letterAtM (by omega) t1 h8 (by omega) ⟨fun z => cf (nle (by omega)) ⟨vin (by omega), ?_⟩, fun z => go (.inl z)⟩)
      rw [ncl, t1.2 q (by omega)]
      refine ⟨fun q39 => ?_, fun q39 => stop' (fun k => k.elim (fun k => k z) (fun k => q39 k.1))⟩
      by_cases c0 : q = 0
      · have e1 : nI q - 1 < 0 := by rw [c0]; decide
        exact c_letterAtM_neg (by omega) e1 (z0 (stop' (fun k => k.elim (fun k => k z) (fun k => absurd k.2.1 (by omega)))))
      · have e1 : nI q - 1 = nI (q - 1) := nI_sub (b := 1) (by omega)
        rw [e1]
        refine c_letterAtM (by omega) t1 h8 (by omega) ⟨fun z2 => stop' (fun k => k.elim (fun k => k z) (fun k => k.2.2.1 z2)), fun z2 => ?_⟩
        rw [nI_1 q]
        exact c_letterAtM (by omega) t1 h8 (by omega) ⟨fun z3 => stop' (fun k => k.elim (fun k => k z) (fun k => k.2.2.2 z3)), fun z3 => go (.inr ⟨q39, by omega, z2, z3⟩)⟩
  have := loop (t.length - a) a A (by omega) (by omega) rfl (fun i hi => by omega) fx.rf
  rw [Nat.sub_self] at this
  exact this
end CTR

/-! PLURALS -/
def plu (w : List Int32) : List Int32 :=
  if w.length = 1 then w
  else if [105, 101, 115] <:+ w ∧ ¬ [101, 105, 101, 115] <:+ w ∧ ¬ [97, 105, 101, 115] <:+ w then w.take (w.length - 3) ++ [121]
  else if [101, 115] <:+ w ∧ ¬ [97, 101, 115] <:+ w ∧ ¬ [101, 101, 115] <:+ w ∧ ¬ [111, 101, 115] <:+ w then w.take (w.length - 1)
  else if [115] <:+ w ∧ ¬ [117, 115] <:+ w ∧ ¬ [115, 115] <:+ w then w.take (w.length - 1) else w
section CTR
variable {d : Nat} {I A : Nat → Nat → Int32} {V : (Nat → Nat → Int32) → (Nat → Nat → Int32) → Prop} {L : Nat} {w : List Int32}
theorem c_dropPlural (hd : 8 ≤ d) (hL : ev_isL L) (hb : bu I A L w) (h : ∀ I' A', bu I' A' L (plu w) → fr L I A I' A' → V I' A') : ev_Bv d 115 0 [some (.ref L)] I A V := by
  obtain ⟨d, rfl⟩ : ∃ e, d = e + 1 := ⟨d - 1, by omega⟩
  have h24 := hb.2.1
  unfold plu at h
  refine t_S_dropPlural_0 hL (c_size hL hb ?_)
  by_cases c1 : w.length = 1
  · rw [if_pos c1] at h
    exact ct (by rw [c1]; rfl) (h _ _ hb fr.rf)
  rw [if_neg c1] at h
  have s96 : ¬ ([105, 101, 115] <:+ w ∧ ¬ [101, 105, 101, 115] <:+ w ∧ ¬ [97, 105, 101, 115] <:+ w) → ¬ ([101, 115] <:+ w ∧ ¬ [97, 101, 115] <:+ w ∧ ¬ [101, 101, 115] <:+ w ∧ ¬ [111, 101, 115] <:+ w) → ev_Bv (d + 1) 115 96 [some (.ref L)] I A V := fun k1 k2 => by
    rw [if_neg k1, if_neg k2] at h
    refine t_S_dropPlural_96 hL (c_ends (by omega) hL hb (by omega) (by decide) (fun g => z1 (c_ends (by omega) hL hb (by omega) (by decide) (fun g1 => z1 (h _ _ ?_ fr.rf)) (fun g1 => z0 (c_ends (by omega) hL hb (by omega) (by decide) (fun g2 => z1 (h _ _ ?_ fr.rf)) (fun g2 => z0 (c_changeEnd (by omega) hL hb (by omega) (by omega) (by decide) ?_ (fun _ I1 A1 b1 f1 => h _ _ ?_ f1) (fun k => absurd g k))))))) (fun g => z0 (h _ _ ?_ fr.rf)))
    · rw [if_neg (fun k => k.2.1 g1)]
      exact hb
    · rw [if_neg (fun k => k.2.2 g2)]
      exact hb
    · show w.length - 1 + 0 ≤ 24
      omega
    · have e : w.take (w.length - 1) ++ ([] : List Int32) = w.take (w.length - 1) := List.append_nil _
      rw [if_pos ⟨g, g1, g2⟩, ← e]
      exact b1
    · rw [if_neg (fun k => g k.1)]
      exact hb
  have s48 : ¬ ([105, 101, 115] <:+ w ∧ ¬ [101, 105, 101, 115] <:+ w ∧ ¬ [97, 105, 101, 115] <:+ w) → ev_Bv (d + 1) 115 48 [some (.ref L)] I A V := fun k1 => by
    refine t_S_dropPlural_48 hL (c_ends (by omega) hL hb (by omega) (by decide) (fun g => z1 (c_ends (by omega) hL hb (by omega) (by decide) (fun g1 => z1 (s96 k1 (fun k => k.2.1 g1))) (fun g1 => z0 (c_ends (by omega) hL hb (by omega) (by decide) (fun g2 => z1 (s96 k1 (fun k => k.2.2.1 g2))) (fun g2 => z0 (c_ends (by omega) hL hb (by omega) (by decide) (fun g3 => z1 (s96 k1 (fun k => k.2.2.2 g3))) (fun g3 => z0 (c_changeEnd (by omega) hL hb (by omega) (by omega) (by decide) ?_ (fun _ I1 A1 b1 f1 => h _ _ ?_ f1) (fun k => absurd g k))))))))) (fun g => z0 (s96 k1 (fun k => g k.1))))
    · show w.length - 2 + 1 ≤ 24
      have := g.length_le
      omega
    · have e : w.take (w.length - 2) ++ [101] = w.take (w.length - 1) := sf_cut (a := [101]) (b := [115]) g
      rw [if_neg k1, if_pos ⟨g, g1, g2, g3⟩, ← e]
      exact b1
  refine cf (neq (b := 1) c1) (c_ends (by omega) hL hb (by omega) (by decide) (fun g => z1 (c_ends (by omega) hL hb (by omega) (by decide) (fun g1 => z1 (s48 (fun k => k.2.1 g1))) (fun g1 => z0 (c_ends (by omega) hL hb (by omega) (by decide) (fun g2 => z1 (s48 (fun k => k.2.2 g2))) (fun g2 => z0 (c_changeEnd (by omega) hL hb (by omega) (by omega) (by decide) ?_ (fun _ I1 A1 b1 f1 => h _ _ ?_ f1) (fun k => absurd g k))))))) (fun g => z0 (s48 (fun k => g k.1))))
  · show w.length - 3 + 1 ≤ 24
    omega
  · rw [if_pos ⟨g, g1, g2⟩]
    exact b1
theorem c_plural (hd : 3 ≤ d) (hr : rb I A w) (h : ∀ I' A', rb I' A' (plu w) → fq I A I' A' → V I' A') : ev_Bv d 141 0 [some (.ref 1033)] I A V := by
  obtain ⟨d, rfl⟩ : ∃ e, d = e + 1 := ⟨d - 1, by omega⟩
  have h80 := hr.2.1
  unfold plu at h
  refine t_M_plural_0 ?_
  rw [hr.1]
  by_cases c1 : w.length = 1
  · rw [if_pos c1] at h
    exact ct (by rw [c1]; rfl) (h _ _ hr fx.rf)
  rw [if_neg c1] at h
  have s120 : 1 ≤ w.length → (∀ I' A', rb I' A' (w.take (w.length - 1)) → fq I A I' A' → V I' A') → ev_Bv (d + 1) 141 120 [some (.ref 1033)] I A V := fun hle h => by
    refine t_M_plural_120 ?_
    have e1 : nI w.length - 1 = nI (w.length - 1) := nI_sub (b := 1) hle
    rw [hr.1, e1]
    exact h _ _ (rb_cut hr (by omega)) (fx.iu (by simp))
  have s90 : ¬ ([105, 101, 115] <:+ w ∧ ¬ [101, 105, 101, 115] <:+ w ∧ ¬ [97, 105, 101, 115] <:+ w) → ¬ ([101, 115] <:+ w ∧ ¬ [97, 101, 115] <:+ w ∧ ¬ [101, 101, 115] <:+ w ∧ ¬ [111, 101, 115] <:+ w) → ev_Bv (d + 1) 141 90 [some (.ref 1033)] I A V := fun k1 k2 => by
    rw [if_neg k1, if_neg k2] at h
    refine t_M_plural_90 (c_endsM (s := [115]) (by omega) (by decide +kernel) (by simp) (by simp) hr (fun g => z1 (c_endsM (s := [117, 115]) (by omega) (by decide +kernel) (by simp) (by simp) hr (fun g1 => z1 (h _ _ ?_ fx.rf)) (fun g1 => z0 (c_endsM (s := [115, 115]) (by omega) (by decide +kernel) (by simp) (by simp) hr (fun g2 => z1 (h _ _ ?_ fx.rf)) (fun g2 => z0 (s120 g.length_le (fun I1 A1 r1 f1 => h _ _ ?_ f1))))))) (fun g => z0 (h _ _ ?_ fx.rf)))
    · rw [if_neg (fun k => k.2.1 g1)]
      exact hr
    · rw [if_neg (fun k => k.2.2 g2)]
      exact hr
    · rw [if_pos ⟨g, g1, g2⟩]
      exact r1
    · rw [if_neg (fun k => g k.1)]
      exact hr
  have s50 : ¬ ([105, 101, 115] <:+ w ∧ ¬ [101, 105, 101, 115] <:+ w ∧ ¬ [97, 105, 101, 115] <:+ w) → ev_Bv (d + 1) 141 50 [some (.ref 1033)] I A V := fun k1 => by
    refine t_M_plural_50 (c_endsM (s := [101, 115]) (by omega) (by decide +kernel) (by simp) (by simp) hr (fun g => z1 (c_endsM (s := [97, 101, 115]) (by omega) (by decide +kernel) (by simp) (by simp) hr (fun g1 => z1 (s90 k1 (fun k => k.2.1 g1))) (fun g1 => z0 (c_endsM (s := [101, 101, 115]) (by omega) (by decide +kernel) (by simp) (by simp) hr (fun g2 => z1 (s90 k1 (fun k => k.2.2.1 g2))) (fun g2 => z0 (c_endsM (s := [111, 101, 115]) (by omega) (by decide +kernel) (by simp) (by simp) hr (fun g3 => z1 (s90 k1 (fun k => k.2.2.2 g3))) (fun g3 => z0 (s120 ?_ (fun I1 A1 r1 f1 => h _ _ ?_ f1))))))))) (fun g => z0 (s90 k1 (fun k => g k.1))))
    · have : 2 ≤ w.length := g.length_le
      omega
    · rw [if_neg k1, if_pos ⟨g, g1, g2, g3⟩]
      exact r1
  refine cf (neq (b := 1) c1) (c_endsM (s := [105, 101, 115]) (by omega) (by decide +kernel) (by simp) (by simp) hr (fun g => z1 (c_endsM (s := [101, 105, 101, 115]) (by omega) (by decide +kernel) (by simp) (by simp) hr (fun g1 => z1 (s50 (fun k => k.2.1 g1))) (fun g1 => z0 (c_endsM (s := [97, 105, 101, 115]) (by omega) (by decide +kernel) (by simp) (by simp) hr (fun g2 => z1 (s50 (fun k => k.2.2 g2))) (fun g2 => z0 (c_turn (g := 3) (s := [121]) (by omega) (by decide +kernel) hr g.length_le (by simp; omega) (fun I1 A1 r1 f1 => h _ _ ?_ f1))))))) (fun g => z0 (s50 (fun k => g k.1))))
  rw [if_pos ⟨g, g1, g2⟩]
  exact r1
end CTR

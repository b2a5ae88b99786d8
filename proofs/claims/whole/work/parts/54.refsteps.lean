/-! PORTER: the reference's tables and steps -/
def sec : List Int64 := [12933637761, 5761, 404176180, 474420, 298437, 167365, 298433, 167361, 595785, 5961, 307265, 176193, 307585, 385, 9851333, 20933, 9605, 5, 9850543, 20143, 15545796425, 5961, 15181441, 5761, 605825, 5761, 14263681, 385, 21044336329, 5833, 21044343462, 12966, 21044350639, 20143, 10102145, 385, 10102473, 5833, 323268898, 5506]
def thi : List Int64 := [5899369, 105, 5973633, 0, 6104449, 385, 10101865, 105, 394345, 105, 12966, 0, 642222, 0]
def fou : List Int64 := [385, 167361, 167365, 581, 105, 176193, 176201, 20929, 21435813, 669869, 20933, 14825, 687, 13929, 5761, 9865, 20143, 5833, 5961]
section TAB
variable {d : Nat} {I A : Nat → Nat → Int32} {G : Int64 → (Nat → Nat → Int32) → (Nat → Nat → Int32) → Prop}
theorem c_second : ∀ k, k ≤ 40 → G (sec.getD k 0) I A → ev_Bl d 142 0 [some (.int (nI k))] I A G
  | 0, _, h => t_M_second_0 _ (t_M_second_1s0 _ h)
  | 1, _, h => t_M_second_0 _ (t_M_second_1s1 _ h)
  | 2, _, h => t_M_second_0 _ (t_M_second_1s2 _ h)
  | 3, _, h => t_M_second_0 _ (t_M_second_1s3 _ h)
  | 4, _, h => t_M_second_0 _ (t_M_second_1s4 _ h)
  | 5, _, h => t_M_second_0 _ (t_M_second_1s5 _ h)
  | 6, _, h => t_M_second_0 _ (t_M_second_1s6 _ h)
  | 7, _, h => t_M_second_0 _ (t_M_second_1s7 _ h)
  | 8, _, h => t_M_second_0 _ (t_M_second_1s8 _ h)
  | 9, _, h => t_M_second_0 _ (t_M_second_1s9 _ h)
  | 10, _, h => t_M_second_0 _ (t_M_second_1s10 _ h)
  | 11, _, h => t_M_second_0 _ (t_M_second_1s11 _ h)
  | 12, _, h => t_M_second_0 _ (t_M_second_1s12 _ h)
  | 13, _, h => t_M_second_0 _ (t_M_second_1s13 _ h)
  | 14, _, h => t_M_second_0 _ (t_M_second_1s14 _ h)
  | 15, _, h => t_M_second_0 _ (t_M_second_1s15 _ h)
  | 16, _, h => t_M_second_0 _ (t_M_second_1s16 _ h)
  | 17, _, h => t_M_second_0 _ (t_M_second_1s17 _ h)
  | 18, _, h => t_M_second_0 _ (t_M_second_1s18 _ h)
  | 19, _, h => t_M_second_0 _ (t_M_second_1s19 _ h)
  | 20, _, h => t_M_second_0 _ (t_M_second_1s20 _ h)
  | 21, _, h => t_M_second_0 _ (t_M_second_1s21 _ h)
  | 22, _, h => t_M_second_0 _ (t_M_second_1s22 _ h)
  | 23, _, h => t_M_second_0 _ (t_M_second_1s23 _ h)
  | 24, _, h => t_M_second_0 _ (t_M_second_1s24 _ h)
  | 25, _, h => t_M_second_0 _ (t_M_second_1s25 _ h)
  | 26, _, h => t_M_second_0 _ (t_M_second_1s26 _ h)
  | 27, _, h => t_M_second_0 _ (t_M_second_1s27 _ h)
  | 28, _, h => t_M_second_0 _ (t_M_second_1s28 _ h)
  | 29, _, h => t_M_second_0 _ (t_M_second_1s29 _ h)
  | 30, _, h => t_M_second_0 _ (t_M_second_1s30 _ h)
  | 31, _, h => t_M_second_0 _ (t_M_second_1s31 _ h)
  | 32, _, h => t_M_second_0 _ (t_M_second_1s32 _ h)
  | 33, _, h => t_M_second_0 _ (t_M_second_1s33 _ h)
  | 34, _, h => t_M_second_0 _ (t_M_second_1s34 _ h)
  | 35, _, h => t_M_second_0 _ (t_M_second_1s35 _ h)
  | 36, _, h => t_M_second_0 _ (t_M_second_1s36 _ h)
  | 37, _, h => t_M_second_0 _ (t_M_second_1s37 _ h)
  | 38, _, h => t_M_second_0 _ (t_M_second_1s38 _ h)
  | 39, _, h => t_M_second_0 _ (t_M_second_1s39 _ h)
  | k + 40, hk, h => by
    refine t_M_second_0 _ (t_M_second_1sd _ _ (.inr ?_) ?_)
    · rw [nI_toInt (by omega)]
      omega
    · have : sec.getD (k + 40) 0 = 0 := by
        rw [List.getD_eq_getElem?_getD, List.getElem?_eq_none (by simp [sec])]
        rfl
      rw [this] at h
      exact h
theorem c_third : ∀ k, k ≤ 40 → G (thi.getD k 0) I A → ev_Bl d 143 0 [some (.int (nI k))] I A G
  | 0, _, h => t_M_third_0 _ (t_M_third_1s0 _ h)
  | 1, _, h => t_M_third_0 _ (t_M_third_1s1 _ h)
  | 2, _, h => t_M_third_0 _ (t_M_third_1s2 _ h)
  | 3, _, h => t_M_third_0 _ (t_M_third_1s3 _ h)
  | 4, _, h => t_M_third_0 _ (t_M_third_1s4 _ h)
  | 5, _, h => t_M_third_0 _ (t_M_third_1s5 _ h)
  | 6, _, h => t_M_third_0 _ (t_M_third_1s6 _ h)
  | 7, _, h => t_M_third_0 _ (t_M_third_1s7 _ h)
  | 8, _, h => t_M_third_0 _ (t_M_third_1s8 _ h)
  | 9, _, h => t_M_third_0 _ (t_M_third_1s9 _ h)
  | 10, _, h => t_M_third_0 _ (t_M_third_1s10 _ h)
  | 11, _, h => t_M_third_0 _ (t_M_third_1s11 _ h)
  | 12, _, h => t_M_third_0 _ (t_M_third_1s12 _ h)
  | 13, _, h => t_M_third_0 _ (t_M_third_1s13 _ h)
  | k + 14, hk, h => by
    refine t_M_third_0 _ (t_M_third_1sd _ _ (.inr ?_) ?_)
    · rw [nI_toInt (by omega)]
      omega
    · have : thi.getD (k + 14) 0 = 0 := by
        rw [List.getD_eq_getElem?_getD, List.getElem?_eq_none (by simp [thi])]
        rfl
      rw [this] at h
      exact h
theorem c_fourth : ∀ k, k ≤ 40 → G (fou.getD k 0) I A → ev_Bl d 144 0 [some (.int (nI k))] I A G
  | 0, _, h => t_M_fourth_0 _ (t_M_fourth_1s0 _ h)
  | 1, _, h => t_M_fourth_0 _ (t_M_fourth_1s1 _ h)
  | 2, _, h => t_M_fourth_0 _ (t_M_fourth_1s2 _ h)
  | 3, _, h => t_M_fourth_0 _ (t_M_fourth_1s3 _ h)
  | 4, _, h => t_M_fourth_0 _ (t_M_fourth_1s4 _ h)
  | 5, _, h => t_M_fourth_0 _ (t_M_fourth_1s5 _ h)
  | 6, _, h => t_M_fourth_0 _ (t_M_fourth_1s6 _ h)
  | 7, _, h => t_M_fourth_0 _ (t_M_fourth_1s7 _ h)
  | 8, _, h => t_M_fourth_0 _ (t_M_fourth_1s8 _ h)
  | 9, _, h => t_M_fourth_0 _ (t_M_fourth_1s9 _ h)
  | 10, _, h => t_M_fourth_0 _ (t_M_fourth_1s10 _ h)
  | 11, _, h => t_M_fourth_0 _ (t_M_fourth_1s11 _ h)
  | 12, _, h => t_M_fourth_0 _ (t_M_fourth_1s12 _ h)
  | 13, _, h => t_M_fourth_0 _ (t_M_fourth_1s13 _ h)
  | 14, _, h => t_M_fourth_0 _ (t_M_fourth_1s14 _ h)
  | 15, _, h => t_M_fourth_0 _ (t_M_fourth_1s15 _ h)
  | 16, _, h => t_M_fourth_0 _ (t_M_fourth_1s16 _ h)
  | 17, _, h => t_M_fourth_0 _ (t_M_fourth_1s17 _ h)
  | 18, _, h => t_M_fourth_0 _ (t_M_fourth_1s18 _ h)
  | k + 19, hk, h => by
    refine t_M_fourth_0 _ (t_M_fourth_1sd _ _ (.inr ?_) ?_)
    · rw [nI_toInt (by omega)]
      omega
    · have : fou.getD (k + 19) 0 = 0 := by
        rw [List.getD_eq_getElem?_getD, List.getElem?_eq_none (by simp [fou])]
        rfl
      rw [this] at h
      exact h
end TAB
theorem sfs {s t w : List Int32} (hs : s <:+ w) (ht : t <:+ w) (hl : s.length ≤ t.length) : s <:+ t := List.suffix_of_suffix_length_le hs ht hl
theorem sf_cut {a b w : List Int32} (h : (a ++ b) <:+ w) : w.take (w.length - (a ++ b).length) ++ a = w.take (w.length - b.length) := by
  obtain ⟨u, rfl⟩ := h
  have e1 : (u ++ (a ++ b)).length - (a ++ b).length = u.length := by
    rw [List.length_append]
    omega
  have e2 : (u ++ (a ++ b)).length - b.length = (u ++ a).length := by
    rw [List.length_append, List.length_append, List.length_append]
    omega
  rw [e1, e2, List.take_left, ← List.append_assoc, List.take_left]
theorem lg_sf {R : List Row} {w : List Int32} {r : Row} (h : lg R w = some r) : r.1 <:+ w := by
  have : ∀ (R : List Row) (acc : Option Row), (∀ a, acc = some a → a.1 <:+ w) → ∀ a, R.foldl (s1 w) acc = some a → a.1 <:+ w := by
    intro R
    induction R with
    | nil => intro acc ha a e; exact ha a e
    | cons r R ihR =>
      intro acc ha a e
      refine ihR _ (fun b hb => ?_) a e
      unfold s1 at hb
      split at hb
      · rename_i hr
        split at hb
        · rw [Option.some.injEq] at hb
          rw [← hb]
          exact hr
        · rename_i a'
          split at hb
          · rw [Option.some.injEq] at hb
            rw [← hb]
            exact hr
          · rw [Option.some.injEq] at hb
            rw [← hb]
            exact ha _ rfl
      · exact ha b hb
  exact this _ none (by simp) _ h
theorem lg_snoc {R : List Row} {w : List Int32} {j : Nat} {r : Row} (h : R[j]? = some r) : lg (R.take (j + 1)) w = s1 w (lg (R.take j) w) r := by
  unfold lg
  rw [List.take_add_one, h, List.foldl_append]
  rfl
theorem hl1 {w : List Int32} {n : Nat} : hl 1 w n ↔ 0 < ms w n := by
  constructor
  · rintro (m | ⟨_, m⟩ | ⟨m, _⟩ | ⟨m, _⟩ | ⟨m, _⟩ | ⟨m, _⟩)
    · exact absurd m (by decide)
    · exact m
    · exact absurd m (by decide)
    · exact absurd m (by decide)
    · exact absurd m (by decide)
    · exact absurd m (by decide)
  · exact fun m => .inr (.inl ⟨rfl, m⟩)
theorem hl2 {w : List Int32} {n : Nat} : hl 2 w n ↔ 1 < ms w n := by
  constructor
  · rintro (m | ⟨m, _⟩ | ⟨_, m⟩ | ⟨m, _⟩ | ⟨m, _⟩ | ⟨m, _⟩)
    · exact absurd m (by decide)
    · exact absurd m (by decide)
    · exact m
    · exact absurd m (by decide)
    · exact absurd m (by decide)
    · exact absurd m (by decide)
  · exact fun m => .inr (.inr (.inl ⟨rfl, m⟩))
theorem hl3 {w : List Int32} {n : Nat} : hl 3 w n ↔ hv w n := by
  constructor
  · rintro (m | ⟨m, _⟩ | ⟨m, _⟩ | ⟨_, m⟩ | ⟨m, _⟩ | ⟨m, _⟩)
    · exact absurd m (by decide)
    · exact absurd m (by decide)
    · exact absurd m (by decide)
    · exact m
    · exact absurd m (by decide)
    · exact absurd m (by decide)
  · exact fun m => .inr (.inr (.inr (.inl ⟨rfl, m⟩)))
theorem hl4 {w : List Int32} {n : Nat} : hl 4 w n ↔ 1 < ms w n ∧ (w.getD (n - 1) 0 = 115 ∨ w.getD (n - 1) 0 = 116) := by
  constructor
  · rintro (m | ⟨m, _⟩ | ⟨m, _⟩ | ⟨m, _⟩ | ⟨_, m⟩ | ⟨m, _⟩)
    · exact absurd m (by decide)
    · exact absurd m (by decide)
    · exact absurd m (by decide)
    · exact absurd m (by decide)
    · exact m
    · exact absurd m (by decide)
  · exact fun m => .inr (.inr (.inr (.inr (.inl ⟨rfl, m⟩))))
theorem hl5 {w : List Int32} {n : Nat} : hl 5 w n ↔ (1 < ms w n ∨ (ms w n = 1 ∧ ¬ so w n)) := by
  constructor
  · rintro (m | ⟨m, _⟩ | ⟨m, _⟩ | ⟨m, _⟩ | ⟨m, _⟩ | ⟨_, m⟩)
    · exact absurd m (by decide)
    · exact absurd m (by decide)
    · exact absurd m (by decide)
    · exact absurd m (by decide)
    · exact absurd m (by decide)
    · exact m
  · exact fun m => .inr (.inr (.inr (.inr (.inr ⟨rfl, m⟩))))
set_option maxRecDepth 100000 in
theorem er0 : ers (nI 0) 54 = [([115, 115, 101, 115], [115, 115], 0), ([105, 101, 115], [105], 0), ([115, 115], [115, 115], 0), ([115], [], 0)] := by decide +kernel
set_option maxRecDepth 100000 in
theorem er1 : ers (nI 1) 54 = [([101, 101, 100], [101, 101], 1), ([101, 100], [], 3), ([105, 110, 103], [], 3)] := by decide +kernel
set_option maxRecDepth 100000 in
theorem er6 : ers (nI 6) 54 = [([101], [], 5)] := by decide +kernel
theorem pst_some {k : Nat} {w : List Int32} {r : Row} {R : List Row} (h2 : k ≠ 2) (h7 : k ≠ 7) (hR : ers (nI k) 54 = R) (h : lg R w = some r) : pst k w = ptl w r := by
  rw [pst, if_neg h2, if_neg h7, hR, h]
theorem pst_none {k : Nat} {w : List Int32} {R : List Row} (h2 : k ≠ 2) (h7 : k ≠ 7) (hR : ers (nI k) 54 = R) (h : lg R w = none) : pst k w = w := by
  rw [pst, if_neg h2, if_neg h7, hR, h]
theorem p0 {w : List Int32} : pst 0 w = if [115, 115, 101, 115] <:+ w ∨ [105, 101, 115] <:+ w then w.take (w.length - 2) else if [115] <:+ w ∧ ¬ [115, 115] <:+ w then w.take (w.length - 1) else w := by
  have hp : ∀ r : Row, r.2.2 = 0 → r.1 ≠ [101, 100] → r.1 ≠ [105, 110, 103] → ptl w r = w.take (w.length - r.1.length) ++ r.2.1 := fun r h1 h2 h3 => by
    rw [ptl, if_pos (Or.inl h1), if_neg]
    rintro (k | k)
    · exact h2 k
    · exact h3 k
  by_cases c1 : [115, 115, 101, 115] <:+ w
  · have c2 : ¬ [105, 101, 115] <:+ w := fun k => absurd (sfs k c1 (by decide)) (by decide)
    have c3 : ¬ [115, 115] <:+ w := fun k => absurd (sfs k c1 (by decide)) (by decide)
    have c4 : [115] <:+ w := List.IsSuffix.trans (by decide) c1
    rw [pst_some (by decide) (by decide) er0 (r := ([115, 115, 101, 115], [115, 115], 0)) (by simp only [lg, List.foldl, s1, if_pos c1, if_neg c2, if_neg c3, if_pos c4]; rfl), if_pos (Or.inl c1), hp _ rfl (by decide) (by decide)]
    exact sf_cut (a := [115, 115]) (b := [101, 115]) c1
  by_cases c2 : [105, 101, 115] <:+ w
  · have c3 : ¬ [115, 115] <:+ w := fun k => absurd (sfs k c2 (by decide)) (by decide)
    have c4 : [115] <:+ w := List.IsSuffix.trans (by decide) c2
    rw [pst_some (by decide) (by decide) er0 (r := ([105, 101, 115], [105], 0)) (by simp only [lg, List.foldl, s1, if_neg c1, if_pos c2, if_neg c3, if_pos c4]; rfl), if_pos (Or.inr c2), hp _ rfl (by decide) (by decide)]
    exact sf_cut (a := [105]) (b := [101, 115]) c2
  rw [if_neg (fun k : _ ∨ _ => k.elim c1 c2)]
  by_cases c3 : [115, 115] <:+ w
  · have c4 : [115] <:+ w := List.IsSuffix.trans (by decide) c3
    rw [pst_some (by decide) (by decide) er0 (r := ([115, 115], [115, 115], 0)) (by simp only [lg, List.foldl, s1, if_neg c1, if_neg c2, if_pos c3, if_pos c4]; rfl), if_neg (fun k : ([115] <:+ w ∧ ¬ [115, 115] <:+ w) => k.2 c3), hp _ rfl (by decide) (by decide)]
    exact (sf_eq c3).symm
  by_cases c4 : [115] <:+ w
  · rw [pst_some (by decide) (by decide) er0 (r := ([115], [], 0)) (by simp only [lg, List.foldl, s1, if_neg c1, if_neg c2, if_neg c3, if_pos c4]), if_pos (And.intro c4 c3), hp _ rfl (by decide) (by decide), List.append_nil]
    rfl
  · rw [pst_none (by decide) (by decide) er0 (by simp only [lg, List.foldl, s1, if_neg c1, if_neg c2, if_neg c3, if_neg c4]), if_neg (fun k : ([115] <:+ w ∧ ¬ [115, 115] <:+ w) => c4 k.1)]
theorem p1 {w : List Int32} : pst 1 w = if [101, 101, 100] <:+ w then (if 0 < ms w (w.length - 3) then w.take (w.length - 1) else w) else if [101, 100] <:+ w then (if hv w (w.length - 2) then mnd (w.take (w.length - 2)) else w) else if [105, 110, 103] <:+ w then (if hv w (w.length - 3) then mnd (w.take (w.length - 3)) else w) else w := by
  by_cases c1 : [101, 101, 100] <:+ w
  · have c2 : [101, 100] <:+ w := List.IsSuffix.trans (by decide) c1
    have c3 : ¬ [105, 110, 103] <:+ w := fun k => absurd (sfs k c1 (by decide)) (by decide)
    rw [pst_some (by decide) (by decide) er1 (r := ([101, 101, 100], [101, 101], 1)) (by simp only [lg, List.foldl, s1, if_pos c1, if_pos c2, if_neg c3]; rfl), if_pos c1]
    have e := sf_cut (a := [101, 101]) (b := [100]) c1
    show (if hl 1 w (w.length - 3) then (if (([101, 101, 100] : List Int32) = [101, 100] ∨ ([101, 101, 100] : List Int32) = [105, 110, 103]) then _ else _) else w) = _
    rw [if_neg (by decide : ¬ (([101, 101, 100] : List Int32) = [101, 100] ∨ ([101, 101, 100] : List Int32) = [105, 110, 103]))]
    by_cases cm : 0 < ms w (w.length - 3)
    · rw [if_pos cm, if_pos (hl1.mpr cm)]
      exact e
    · rw [if_neg cm, if_neg (fun k => cm (hl1.mp k))]
  rw [if_neg c1]
  by_cases c2 : [101, 100] <:+ w
  · have c3 : ¬ [105, 110, 103] <:+ w := fun k => absurd (sfs c2 k (by decide)) (by decide)
    rw [pst_some (by decide) (by decide) er1 (r := ([101, 100], [], 3)) (by simp only [lg, List.foldl, s1, if_neg c1, if_pos c2, if_neg c3]), if_pos c2]
    show (if hl 3 w (w.length - 2) then (if (([101, 100] : List Int32) = [101, 100] ∨ ([101, 100] : List Int32) = [105, 110, 103]) then mnd (w.take (w.length - 2) ++ []) else _) else w) = _
    rw [if_pos (Or.inl rfl : (([101, 100] : List Int32) = [101, 100] ∨ ([101, 100] : List Int32) = [105, 110, 103])), List.append_nil]
    by_cases cm : hv w (w.length - 2)
    · rw [if_pos cm, if_pos (hl3.mpr cm)]
    · rw [if_neg cm, if_neg (fun k => cm (hl3.mp k))]
  rw [if_neg c2]
  by_cases c3 : [105, 110, 103] <:+ w
  · rw [pst_some (by decide) (by decide) er1 (r := ([105, 110, 103], [], 3)) (by simp only [lg, List.foldl, s1, if_neg c1, if_neg c2, if_pos c3]), if_pos c3]
    show (if hl 3 w (w.length - 3) then (if (([105, 110, 103] : List Int32) = [101, 100] ∨ ([105, 110, 103] : List Int32) = [105, 110, 103]) then mnd (w.take (w.length - 3) ++ []) else _) else w) = _
    rw [if_pos (Or.inr rfl : (([105, 110, 103] : List Int32) = [101, 100] ∨ ([105, 110, 103] : List Int32) = [105, 110, 103])), List.append_nil]
    by_cases cm : hv w (w.length - 3)
    · rw [if_pos cm, if_pos (hl3.mpr cm)]
    · rw [if_neg cm, if_neg (fun k => cm (hl3.mp k))]
  · rw [pst_none (by decide) (by decide) er1 (by simp only [lg, List.foldl, s1, if_neg c1, if_neg c2, if_neg c3]), if_neg c3]
theorem p6 {w : List Int32} : pst 6 w = if [101] <:+ w then (if 1 < ms w (w.length - 1) ∨ (ms w (w.length - 1) = 1 ∧ ¬ so w (w.length - 1)) then w.take (w.length - 1) else w) else w := by
  by_cases c1 : [101] <:+ w
  · rw [pst_some (by decide) (by decide) er6 (r := ([101], [], 5)) (by simp only [lg, List.foldl, s1, if_pos c1]), if_pos c1]
    show (if hl 5 w (w.length - 1) then (if (([101] : List Int32) = [101, 100] ∨ ([101] : List Int32) = [105, 110, 103]) then _ else w.take (w.length - 1) ++ []) else w) = _
    rw [if_neg (by decide : ¬ (([101] : List Int32) = [101, 100] ∨ ([101] : List Int32) = [105, 110, 103])), List.append_nil]
    by_cases cm : 1 < ms w (w.length - 1) ∨ (ms w (w.length - 1) = 1 ∧ ¬ so w (w.length - 1))
    · rw [if_pos cm, if_pos (hl5.mpr cm)]
    · rw [if_neg cm, if_neg (fun k => cm (hl5.mp k))]
  · rw [pst_none (by decide) (by decide) er6 (by simp only [lg, List.foldl, s1, if_neg c1]), if_neg c1]
abbrev tb (s : Nat) : List Int64 := if s = 3 then sec else if s = 4 then thi else fou
abbrev sb (s : Nat) : Nat := if s = 5 then 1 else 2
abbrev tbp (s i : Nat) (r : Row) : Prop := de ((tb s).getD (sb s * i) 0) r.1 ∧ ¬ lg_cmp ((tb s).getD (sb s * i) 0) 0 = 0 ∧ r.1 ≠ [] ∧ r.1.length ≤ 8 ∧ r.2.1.length ≤ r.1.length ∧ r.1 ≠ [101, 100] ∧ r.1 ≠ [105, 110, 103] ∧ (s < 5 → de ((tb s).getD (2 * i + 1) 0) r.2.1 ∧ r.2.2 = 1) ∧ (s = 5 → r.2.1 = [] ∧ r.2.2 = (if i = 11 then 4 else 2))
set_option maxRecDepth 100000 in
theorem tb_ok : ∀ s : Fin 3, ((ers (nI (s.val + 3)) 54).length ≤ 20 ∧ lg_cmp ((tb (s.val + 3)).getD (sb (s.val + 3) * (ers (nI (s.val + 3)) 54).length) 0) 0 = 0) ∧ ∀ i : Fin 20, i.val < (ers (nI (s.val + 3)) 54).length → tbp (s.val + 3) i.val ((ers (nI (s.val + 3)) 54).getD i.val ([], [], 0)) := by decide +kernel
theorem tb_at {s i : Nat} {r : Row} (hs : s = 3 ∨ s = 4 ∨ s = 5) (h : (ers (nI s) 54)[i]? = some r) : tbp s i r := by
  have hi := (List.getElem?_eq_some_iff.mp h).1
  have hk := tb_ok ⟨s - 3, by omega⟩
  have e : s - 3 + 3 = s := by omega
  simp only [e] at hk
  have := hk.2 ⟨i, by omega⟩ hi
  have hg : (ers (nI s) 54).getD i ([], [], 0) = r := by
    rw [List.getD_eq_getElem?_getD, h]
    rfl
  rw [hg] at this
  exact this
theorem tb_end {s : Nat} (hs : s = 3 ∨ s = 4 ∨ s = 5) : (ers (nI s) 54).length ≤ 20 ∧ lg_cmp ((tb s).getD (sb s * (ers (nI s) 54).length) 0) 0 = 0 := by
  have hk := tb_ok ⟨s - 3, by omega⟩
  have e : s - 3 + 3 = s := by omega
  simp only [e] at hk
  exact hk.1
abbrev bst (s : Nat) (b : Option Nat) : Int32 := match b with
  | none => -1
  | some i => nI (sb s * i)
abbrev bsz (R : List Row) (b : Option Nat) : Int32 := match b with
  | none => 0
  | some i => nI (R.getD i ([], [], 0)).1.length
section CTR
variable {d : Nat} {I A : Nat → Nat → Int32} {K : Int32 → (Nat → Nat → Int32) → (Nat → Nat → Int32) → Prop} {G : Int64 → (Nat → Nat → Int32) → (Nat → Nat → Int32) → Prop} {V : (Nat → Nat → Int32) → (Nat → Nat → Int32) → Prop} {n i f : Nat} {u w : List Int32}
theorem c_ending (hd : 1 ≤ d) {s k : Nat} (hs : s = 3 ∨ s = 4 ∨ s = 5) (hk : k ≤ 40) (h : G ((tb s).getD k 0) I A) : ev_Bl d 145 0 [some (.int (nI s)), some (.int (nI k))] I A G := by
  obtain ⟨d, rfl⟩ : ∃ e, d = e + 1 := ⟨d - 1, by omega⟩
  refine t_M_ending_0 _ _ ?_
  rcases hs with rfl | rfl | rfl
  · exact ct rfl (c_second k hk h)
  · exact cf (by decide) (ct rfl (c_third k hk h))
  · exact cf (by decide) (cf (by decide) (c_fourth k hk h))
theorem c_longest (hd : 3 ≤ d) {s : Nat} (hs : s = 3 ∨ s = 4 ∨ s = 5) (hr : rb I A w) (h0 : lg (ers (nI s) 54) w = none → K (-1) I A) (h1 : ∀ i r, i < 20 → (ers (nI s) 54)[i]? = some r → lg (ers (nI s) 54) w = some r → K (nI (sb s * i)) I A) : ev_Bi d 146 0 [some (.ref 1033), some (.int (nI s)), none, none, none, none, none, none] I A K := by
  obtain ⟨d, rfl⟩ : ∃ e, d = e + 1 := ⟨d - 1, by omega⟩
  have h80 := hr.2.1
  have hend := tb_end hs
  have hat := fun i r => tb_at (i := i) (r := r) hs
  generalize ers (nI s) 54 = R at h0 h1 hend hat
  have hsb : sb s ≤ 2 ∧ 1 ≤ sb s := by
    rcases hs with rfl | rfl | rfl <;> decide
  have loop : ∀ n j (b : Option Nat) o6 o7, j + n = R.length → b.bind (fun i => R[i]?) = lg (R.take j) w → (∀ i, b = some i → i < R.length) → ev_Bi (d + 1) 146 19 [some (.ref 1033), some (.int (nI s)), some (.int (nI (sb s))), some (.int (bst s b)), some (.int (bsz R b)), some (.int (nI (sb s * j))), o6, o7] I A K := by
    intro n
    induction n with
    | zero =>
      intro j b o6 o7 hj hb hbl
      have hj' : j = R.length := by omega
      subst hj'
      have hm : sb s * R.length ≤ 2 * 20 := Nat.mul_le_mul hsb.1 hend.1
      rw [List.take_length] at hb
      refine t_M_longest_19 _ _ _ _ _ _ _ (c_ending (by omega) hs (by omega) (ct hend.2 ?_))
      cases b with
      | none => exact h0 hb.symm
      | some i =>
        have hi := hbl i rfl
        have hq : R[i]? = some R[i] := List.getElem?_eq_getElem hi
        refine h1 i R[i] (by omega) hq ?_
        rw [← hb]
        exact hq
    | succ n ih =>
      intro j b o6 o7 hj hb hbl
      have hjl : j < R.length := by omega
      have hq : R[j]? = some R[j] := List.getElem?_eq_getElem hjl
      generalize R[j] = r at hq
      have hm : sb s * j ≤ 2 * 20 := Nat.mul_le_mul hsb.1 (by omega)
      obtain ⟨t1, t2, t3, t4, t5, _⟩ := hat j r hq
      have hpos : 0 < r.1.length := List.length_pos_iff.mpr t3
      have e1 : nI (sb s * j) + nI (sb s) = nI (sb s * (j + 1)) := by
        rw [nI_add, Nat.mul_succ]
      have hlg := lg_snoc (w := w) hq
      have stay : lg (R.take (j + 1)) w = lg (R.take j) w → ev_Bi (d + 1) 146 67 [some (.ref 1033), some (.int (nI s)), some (.int (nI (sb s))), some (.int (bst s b)), some (.int (bsz R b)), some (.int (nI (sb s * j))), some (.long ((tb s).getD (sb s * j) 0)), none] I A K := fun g => by
        refine t_M_longest_67 _ _ _ _ _ _ ?_
        rw [e1]
        exact ih (j + 1) b _ _ (by omega) (by rw [g]; exact hb) hbl
      have tak : lg (R.take (j + 1)) w = some r → ev_Bi (d + 1) 146 67 [some (.ref 1033), some (.int (nI s)), some (.int (nI (sb s))), some (.int (nI (sb s * j))), some (.int (nI r.1.length)), some (.int (nI (sb s * j))), some (.long ((tb s).getD (sb s * j) 0)), none] I A K := fun g => by
        refine t_M_longest_67 _ _ _ _ _ _ ?_
        rw [e1]
        have := ih (j + 1) (some j) (some (.long ((tb s).getD (sb s * j) 0))) none (by omega) (by rw [g]; exact hq) (fun i hi => by rw [Option.some.injEq] at hi; omega)
        simp only [bsz, List.getD_eq_getElem?_getD, hq, Option.getD_some] at this
        simp only [List.getD_eq_getElem?_getD]
        exact this
      refine t_M_longest_19 _ _ _ _ _ _ _ (c_ending (by omega) hs (by omega) (cf t2 (c_ending (by omega) hs (by omega) (c_endsM (by omega) t1 t3 (by omega) hr (fun g => z1 (c_lettersOf t1 ?_)) (fun g => z0 (stay ?_))))))
      · cases b with
        | none =>
          refine cf (nle (b := 0) hpos) (c_lettersOf t1 (tak ?_))
          rw [hlg]
          unfold s1
          rw [if_pos g, ← hb]
          rfl
        | some i =>
          have hi := hbl i rfl
          have hp : R[i]? = some R[i] := List.getElem?_eq_getElem hi
          generalize R[i] = a at hp
          have hpl := (hat i a hp).2.2.2.1
          have hb' : lg (R.take j) w = some a := by
            rw [← hb]
            exact hp
          have hz : bsz R (some i) = nI a.1.length := by
            simp only [bsz, List.getD_eq_getElem?_getD, hp, Option.getD_some]
          by_cases cl : a.1.length < r.1.length
          · refine cf (by rw [hz]; exact nle cl) (c_lettersOf t1 (tak ?_))
            rw [hlg]
            unfold s1
            rw [if_pos g, hb']
            simp only
            rw [if_pos cl]
          · refine ct (by rw [hz]; exact ule (by omega)) (stay ?_)
            rw [hlg]
            unfold s1
            rw [if_pos g, hb']
            simp only
            rw [if_neg cl]
      · rw [hlg]
        unfold s1
        rw [if_neg g]
  refine t_M_longest_0 _ ?_
  rcases hs with rfl | rfl | rfl
  · exact cf (by decide) (loop R.length 0 none none none (by omega) rfl (by simp))
  · exact cf (by decide) (loop R.length 0 none none none (by omega) rfl (by simp))
  · exact ct rfl (loop R.length 0 none none none (by omega) rfl (by simp))
theorem c_replace (hd : 4 ≤ d) {s : Nat} (hs : s = 3 ∨ s = 4) (hr : rb I A w) (h : ∀ I' A', rb I' A' (pst s w) → fq I A I' A' → V I' A') : ev_Bv d 147 0 [some (.ref 1033), some (.int (nI s)), none, none] I A V := by
  obtain ⟨d, rfl⟩ : ∃ e, d = e + 1 := ⟨d - 1, by omega⟩
  have h80 := hr.2.1
  have hs' : s = 3 ∨ s = 4 ∨ s = 5 := by omega
  have epj : pst s w = match lg (ers (nI s) 54) w with
      | none => w
      | some r => ptl w r := by
    rw [pst, if_neg (by omega), if_neg (by omega)]
    rfl
  refine t_M_replace_0 _ (c_longest (by omega) hs' hr (fun g => cf (by decide) (ct (by decide) (h _ _ ?_ fx.rf))) (fun i r hi hq g => ?_))
  · rw [epj, g]
    exact hr
  · rw [g] at epj
    simp only at epj
    have hsf := lg_sf g
    have hle := hsf.length_le
    obtain ⟨t1, t2, t3, t4, t5, t6, t7, t8, _⟩ := tb_at hs' hq
    obtain ⟨t8, t9⟩ := t8 (by omega)
    have esb : sb s = 2 := if_neg (by omega)
    rw [esb] at t1 t2 ⊢
    refine ct nge (c_ending (by omega) hs' (by omega) (c_lettersOf t1 (cf npo ?_)))
    rw [hr.1, nI_sub hle]
    have hms := ms_lt (w := w) (n := w.length - r.1.length)
    refine c_measure0 (by omega) hr (by omega) ?_
    rw [nI_1]
    by_cases cm : 0 < ms w (w.length - r.1.length)
    · refine cf (nle (b := 0) cm) (c_ending (by omega) hs' (by omega) (c_turn (by omega) t8 hr hle (by omega) (fun I1 A1 r1 f1 => h _ _ ?_ f1)))
      rw [epj, ptl, if_pos (by rw [t9]; exact hl1.mpr cm), if_neg (by rintro (k | k); exact t6 k; exact t7 k)]
      exact r1
    · refine ct (ule (b := 0) (by omega)) (h _ _ ?_ fx.rf)
      rw [epj, ptl, if_neg (by rw [t9]; exact fun k => cm (hl1.mp k))]
      exact hr
theorem c_shortE (hd : 3 ≤ d) (hr : rb I A u) (hu : u.length < 80) (h : ∀ I' A', rb I' A' (if ms u u.length = 1 ∧ so u u.length then u ++ [101] else u) → fq I A I' A' → V I' A') : ev_Bv d 149 0 [some (.ref 1033)] I A V := by
  obtain ⟨d, rfl⟩ : ∃ e, d = e + 1 := ⟨d - 1, by omega⟩
  have hms := ms_lt (w := u) (n := u.length)
  refine t_M_shortE_0 ?_
  rw [hr.1]
  refine c_measure0 (by omega) hr (by omega) ?_
  by_cases c1 : ms u u.length = 1
  · refine ct (by rw [c1]; rfl) ?_
    rw [hr.1]
    refine c_isO (by omega) hr (by omega) (fun q => z1 (c_turn (g := 0) (s := [101]) (by omega) (by decide +kernel) hr (by omega) (by simp; omega) (fun I1 A1 r1 f1 => h _ _ ?_ f1))) (fun q => z0 (h _ _ ?_ fx.rf))
    · rw [Nat.sub_zero, List.take_length] at r1
      rw [if_pos ⟨c1, q⟩]
      exact r1
    · rw [if_neg (fun k => q k.2)]
      exact hr
  · refine cf (neq (b := 1) c1) (h _ _ ?_ fx.rf)
    rw [if_neg (fun k => c1 k.1)]
    exact hr
theorem c_do1b (hd : 4 ≤ d) (hr : rb I A w) (h : ∀ I' A', rb I' A' (pst 1 w) → fq I A I' A' → V I' A') : ev_Bv d 148 0 [some (.ref 1033), none, none] I A V := by
  obtain ⟨d, rfl⟩ : ∃ e, d = e + 1 := ⟨d - 1, by omega⟩
  rw [p1] at h
  have h80 := hr.2.1
  refine t_M_do1b_0 (c_endsM (s := [101, 101, 100]) (by omega) (by decide +kernel) (by simp) (by simp) hr (fun g => z1 ?_) (fun g1 => z0 (c_endsM (s := [101, 100]) (by omega) (by decide +kernel) (by simp) (by simp) hr (fun g => z1 ?_) (fun g2 => z0 (c_endsM (s := [105, 110, 103]) (by omega) (by decide +kernel) (by simp) (by simp) hr (fun g => z1 ?_) (fun g3 => z0 (h _ _ ?_ fx.rf)))))))
  · rw [if_pos g] at h
    have hle : 3 ≤ w.length := g.length_le
    have e3 : nI w.length - 3 = nI (w.length - 3) := nI_sub (b := 3) hle
    have e1 : nI w.length - 1 = nI (w.length - 1) := nI_sub (b := 1) (by omega)
    have hms := ms_lt (w := w) (n := w.length - 3)
    rw [hr.1, e3]
    refine c_measure0 (by omega) hr (by omega) ?_
    rw [hr.1, e1]
    by_cases c : 0 < ms w (w.length - 3)
    · rw [if_pos c] at h
      exact cf (nle (b := 0) c) (h _ _ (rb_cut hr (by omega)) (fx.iu (by simp)))
    · rw [if_neg c] at h
      exact ct (ule (b := 0) (by omega)) (h _ _ hr fx.rf)
  · rw [if_neg g1, if_pos g] at h
    have hle : 2 ≤ w.length := g.length_le
    have EG : nI w.length - 2 = nI (w.length - 2) := nI_sub (b := 2) hle
    rw [hr.1, EG]
    refine c_hasVM (by omega) hr (by omega) (fun q => z1 ?_) (fun q => z0 (h _ _ (by rw [if_neg q]; exact hr) fx.rf))
    rw [if_pos q] at h
    have fin := h
    clear h
    rw [hr.1, EG]
    have r1 : rb (ev_upd I 1033 21 (nI (w.length - 2))) A (w.take (w.length - 2)) := rb_cut hr (by omega)
    have f1 : fq I A (ev_upd I 1033 21 (nI (w.length - 2))) A := fx.iu (by simp)
    have hub : (w.take (w.length - 2)).length < 80 := by
      rw [List.length_take]
      omega
    generalize w.take (w.length - 2) = u at r1 fin hub
    generalize ev_upd I 1033 21 (nI (w.length - 2)) = I1 at r1 f1 ⊢
    have hul := r1.2.1
    have at_e : ([97, 116] <:+ u ∨ [98, 108] <:+ u ∨ [105, 122] <:+ u) → u.length < 80 → ev_Bv (d + 1) 148 122 [some (.ref 1033), some (.int 2), none] I1 A V := fun g hu => by
      refine t_M_do1b_122 _ _ (c_turn (g := 0) (s := [101]) (by omega) (by decide +kernel) r1 (by omega) (by simp; omega) (fun I2 A2 b2 f2 => fin _ _ ?_ (f1.tr f2)))
      rw [Nat.sub_zero, List.take_length] at b2
      rw [mnd, if_pos g]
      exact b2
    refine c_endsM (s := [97, 116]) (by omega) (by decide +kernel) (by simp) (by simp) r1 (fun g => z1 (at_e (.inl g) hub)) (fun g1 => z0 (c_endsM (s := [98, 108]) (by omega) (by decide +kernel) (by simp) (by simp) r1 (fun g => z1 (at_e (.inr (.inl g)) hub)) (fun g2 => z0 (c_endsM (s := [105, 122]) (by omega) (by decide +kernel) (by simp) (by simp) r1 (fun g => z1 (at_e (.inr (.inr g)) hub)) (fun g3 => z0 ?_)))))
    have gg : ¬ ([97, 116] <:+ u ∨ [98, 108] <:+ u ∨ [105, 122] <:+ u) := by
      rintro (k | k | k)
      · exact g1 k
      · exact g2 k
      · exact g3 k
    have sh : ∀ I' A', rb I' A' u → fq I A I' A' → ¬ (db u u.length ∧ u.getD (u.length - 1) 0 ≠ 108 ∧ u.getD (u.length - 1) 0 ≠ 115 ∧ u.getD (u.length - 1) 0 ≠ 122) → ev_Bv d 149 0 [some (.ref 1033)] I' A' (fun I1 A2 => V I1 A2) := fun I' A' r' f' k => by
      refine c_shortE (by omega) r' hub (fun I2 A2 r2 f2 => fin _ _ ?_ (f'.tr f2))
      rw [mnd, if_neg gg, if_neg k]
      exact r2
    rw [r1.1]
    by_cases c1 : u.length ≤ 1
    · exact ct (ule (b := 1) c1) (t_M_do1b_261 _ _ (sh _ _ r1 f1 (fun k => absurd k.1.1 (by omega))))
    have e1 : nI u.length - 1 = nI (u.length - 1) := nI_sub (b := 1) (by omega)
    have e2 : nI u.length - 2 = nI (u.length - 2) := nI_sub (b := 2) (by omega)
    have e0 : nI u.length - 0 = nI u.length := nI_sub (b := 0) (by omega)
    rw [e1, e2, ncl, ncl, r1.2.2 _ (by omega), r1.2.2 _ (by omega)]
    refine cf (nle (b := 1) (by omega)) ⟨vin (by omega), vin (by omega), fun q => c_isC (by omega) r1 (by omega) (fun q1 => z1 ?_) (fun q1 => z0 (t_M_do1b_261 _ _ (sh _ _ r1 f1 (fun k => by rw [k.1.2.2.1] at q1; exact absurd q1 (by decide))))), fun q => t_M_do1b_261 _ _ (sh _ _ r1 f1 (fun k => q k.1.2.1))⟩
    rw [r1.1, e2]
    refine c_isC (by omega) r1 (by omega) (fun q2 => z1 ?_) (fun q2 => z0 (t_M_do1b_261 _ _ (sh _ _ r1 f1 (fun k => by rw [k.1.2.2.2] at q2; exact absurd q2 (by decide)))))
    rw [r1.1, e1, e0, ncl, r1.2.2 _ (by omega)]
    have st : ∀ c : Int32, ¬ (db u u.length ∧ u.getD (u.length - 1) 0 ≠ 108 ∧ u.getD (u.length - 1) 0 ≠ 115 ∧ u.getD (u.length - 1) 0 ≠ 122) → ev_Bv (d + 1) 148 254 [some (.ref 1033), some (.int 2), some (.int c)] (ev_upd I1 1033 21 (nI u.length)) A V := fun c k => t_M_do1b_254 _ _ (sh _ _ (rb_same r1) (f1.tr (fx.iu (by simp))) k)
    refine ⟨vin (by omega), fun k => ct k (st _ (fun m => m.2.1 k)), fun k1 => ⟨fun k => cf k1 (ct k (st _ (fun m => m.2.2.1 k))), fun k2 => ⟨fun k => cf k1 (cf k2 (ct k (st _ (fun m => m.2.2.2 k)))), fun k3 => cf k1 (cf k2 (cf k3 (fin _ _ ?_ (f1.tr (fx.iu (by simp))))))⟩⟩⟩
    rw [mnd, if_neg gg, if_pos ⟨⟨by omega, q, q1, q2⟩, k1, k2, k3⟩]
    exact rb_cut r1 (by omega)
  · rw [if_neg g1, if_neg g2, if_pos g] at h
    have hle : 3 ≤ w.length := g.length_le
    have EG : nI w.length - 3 = nI (w.length - 3) := nI_sub (b := 3) hle
    rw [hr.1, EG]
    refine c_hasVM (by omega) hr (by omega) (fun q => z1 ?_) (fun q => z0 (h _ _ (by rw [if_neg q]; exact hr) fx.rf))
    rw [if_pos q] at h
    have fin := h
    clear h
    rw [hr.1, EG]
    have r1 : rb (ev_upd I 1033 21 (nI (w.length - 3))) A (w.take (w.length - 3)) := rb_cut hr (by omega)
    have f1 : fq I A (ev_upd I 1033 21 (nI (w.length - 3))) A := fx.iu (by simp)
    have hub : (w.take (w.length - 3)).length < 80 := by
      rw [List.length_take]
      omega
    generalize w.take (w.length - 3) = u at r1 fin hub
    generalize ev_upd I 1033 21 (nI (w.length - 3)) = I1 at r1 f1 ⊢
    have hul := r1.2.1
    have at_e : ([97, 116] <:+ u ∨ [98, 108] <:+ u ∨ [105, 122] <:+ u) → u.length < 80 → ev_Bv (d + 1) 148 122 [some (.ref 1033), some (.int 3), none] I1 A V := fun g hu => by
      refine t_M_do1b_122 _ _ (c_turn (g := 0) (s := [101]) (by omega) (by decide +kernel) r1 (by omega) (by simp; omega) (fun I2 A2 b2 f2 => fin _ _ ?_ (f1.tr f2)))
      rw [Nat.sub_zero, List.take_length] at b2
      rw [mnd, if_pos g]
      exact b2
    refine c_endsM (s := [97, 116]) (by omega) (by decide +kernel) (by simp) (by simp) r1 (fun g => z1 (at_e (.inl g) hub)) (fun g1 => z0 (c_endsM (s := [98, 108]) (by omega) (by decide +kernel) (by simp) (by simp) r1 (fun g => z1 (at_e (.inr (.inl g)) hub)) (fun g2 => z0 (c_endsM (s := [105, 122]) (by omega) (by decide +kernel) (by simp) (by simp) r1 (fun g => z1 (at_e (.inr (.inr g)) hub)) (fun g3 => z0 ?_)))))
    have gg : ¬ ([97, 116] <:+ u ∨ [98, 108] <:+ u ∨ [105, 122] <:+ u) := by
      rintro (k | k | k)
      · exact g1 k
      · exact g2 k
      · exact g3 k
    have sh : ∀ I' A', rb I' A' u → fq I A I' A' → ¬ (db u u.length ∧ u.getD (u.length - 1) 0 ≠ 108 ∧ u.getD (u.length - 1) 0 ≠ 115 ∧ u.getD (u.length - 1) 0 ≠ 122) → ev_Bv d 149 0 [some (.ref 1033)] I' A' (fun I1 A2 => V I1 A2) := fun I' A' r' f' k => by
      refine c_shortE (by omega) r' hub (fun I2 A2 r2 f2 => fin _ _ ?_ (f'.tr f2))
      rw [mnd, if_neg gg, if_neg k]
      exact r2
    rw [r1.1]
    by_cases c1 : u.length ≤ 1
    · exact ct (ule (b := 1) c1) (t_M_do1b_261 _ _ (sh _ _ r1 f1 (fun k => absurd k.1.1 (by omega))))
    have e1 : nI u.length - 1 = nI (u.length - 1) := nI_sub (b := 1) (by omega)
    have e2 : nI u.length - 2 = nI (u.length - 2) := nI_sub (b := 2) (by omega)
    have e0 : nI u.length - 0 = nI u.length := nI_sub (b := 0) (by omega)
    rw [e1, e2, ncl, ncl, r1.2.2 _ (by omega), r1.2.2 _ (by omega)]
    refine cf (nle (b := 1) (by omega)) ⟨vin (by omega), vin (by omega), fun q => c_isC (by omega) r1 (by omega) (fun q1 => z1 ?_) (fun q1 => z0 (t_M_do1b_261 _ _ (sh _ _ r1 f1 (fun k => by rw [k.1.2.2.1] at q1; exact absurd q1 (by decide))))), fun q => t_M_do1b_261 _ _ (sh _ _ r1 f1 (fun k => q k.1.2.1))⟩
    rw [r1.1, e2]
    refine c_isC (by omega) r1 (by omega) (fun q2 => z1 ?_) (fun q2 => z0 (t_M_do1b_261 _ _ (sh _ _ r1 f1 (fun k => by rw [k.1.2.2.2] at q2; exact absurd q2 (by decide)))))
    rw [r1.1, e1, e0, ncl, r1.2.2 _ (by omega)]
    have st : ∀ c : Int32, ¬ (db u u.length ∧ u.getD (u.length - 1) 0 ≠ 108 ∧ u.getD (u.length - 1) 0 ≠ 115 ∧ u.getD (u.length - 1) 0 ≠ 122) → ev_Bv (d + 1) 148 254 [some (.ref 1033), some (.int 3), some (.int c)] (ev_upd I1 1033 21 (nI u.length)) A V := fun c k => t_M_do1b_254 _ _ (sh _ _ (rb_same r1) (f1.tr (fx.iu (by simp))) k)
    refine ⟨vin (by omega), fun k => ct k (st _ (fun m => m.2.1 k)), fun k1 => ⟨fun k => cf k1 (ct k (st _ (fun m => m.2.2.1 k))), fun k2 => ⟨fun k => cf k1 (cf k2 (ct k (st _ (fun m => m.2.2.2 k)))), fun k3 => cf k1 (cf k2 (cf k3 (fin _ _ ?_ (f1.tr (fx.iu (by simp))))))⟩⟩⟩
    rw [mnd, if_neg gg, if_pos ⟨⟨by omega, q, q1, q2⟩, k1, k2, k3⟩]
    exact rb_cut r1 (by omega)
  · rw [if_neg g1, if_neg g2, if_neg g3]
    exact hr
theorem c_pstep (hd : 5 ≤ d) {k : Nat} (hk : k ≤ 7) (hr : rb I A w) (h : ∀ I' A', rb I' A' (pst k w) → fq I A I' A' → V I' A') : ev_Bv d 150 0 [some (.ref 1033), some (.int (nI k)), none, none, none] I A V := by
  obtain ⟨d, rfl⟩ : ∃ e, d = e + 1 := ⟨d - 1, by omega⟩
  have h80 := hr.2.1
  refine t_M_porterStep_0 _ ?_
  have e1 : 1 ≤ w.length → nI w.length - 1 = nI (w.length - 1) := fun q => nI_sub (b := 1) q
  have e2 : 2 ≤ w.length → nI w.length - 2 = nI (w.length - 2) := fun q => nI_sub (b := 2) q
  match k, hk, h with
  | 0, _, h =>
    rw [p0] at h
    have cut2 : ([115, 115, 101, 115] <:+ w ∨ [105, 101, 115] <:+ w) → ev_Bv (d + 1) 150 64 [some (.ref 1033), some (.int (nI 0)), none, none, none] I A V := fun g => by
      have hle : 2 ≤ w.length := by
        rcases g with g | g
        · have : 4 ≤ w.length := g.length_le
          omega
        · have : 3 ≤ w.length := g.length_le
          omega
      rw [if_pos g] at h
      refine t_M_porterStep_64 _ _ _ _ ?_
      rw [hr.1, e2 hle]
      exact h _ _ (rb_cut hr (by omega)) (fx.iu (by simp))
    refine t_M_porterStep_1s0 _ _ _ _ (c_endsM (s := [115, 115, 101, 115]) (by omega) (by decide +kernel) (by simp) (by simp) hr (fun g => z1 (cut2 (.inl g))) (fun g1 => z0 (c_endsM (s := [105, 101, 115]) (by omega) (by decide +kernel) (by simp) (by simp) hr (fun g => z1 (cut2 (.inr g))) (fun g2 => z0 ?_))))
    rw [if_neg (fun k => k.elim g1 g2)] at h
    refine c_endsM (s := [115]) (by omega) (by decide +kernel) (by simp) (by simp) hr (fun g => z1 (c_endsM (s := [115, 115]) (by omega) (by decide +kernel) (by simp) (by simp) hr (fun g' => z1 (h _ _ ?_ fx.rf)) (fun g' => z0 ?_))) (fun g => z0 (h _ _ ?_ fx.rf))
    · rw [if_neg (fun k => k.2 g')]
      exact hr
    · have hle : 1 ≤ w.length := g.length_le
      rw [if_pos ⟨g, g'⟩] at h
      rw [hr.1, e1 hle]
      exact h _ _ (rb_cut hr (by omega)) (fx.iu (by simp))
    · rw [if_neg (fun k => g k.1)]
      exact hr
  | 1, _, h => exact t_M_porterStep_1s1 _ _ _ _ (c_do1b (by omega) hr h)
  | 2, _, h =>
    rw [pst, if_pos rfl] at h
    refine t_M_porterStep_1s2 _ _ _ _ (c_endsM (s := [121]) (by omega) (by decide +kernel) (by simp) (by simp) hr (fun g => z1 ?_) (fun g => z0 (h _ _ ?_ fx.rf)))
    · have hle : 1 ≤ w.length := g.length_le
      have gy : w.getD (w.length - 1) 0 = 121 := by
        have := ((sa_iff (by simp)).mp (sf_iff.mp g).2).2 0 (by simp)
        exact this
      rw [hr.1, e1 hle]
      refine c_hasVM (by omega) hr (by omega) (fun q => z1 ?_) (fun q => z0 (h _ _ ?_ fx.rf))
      · rw [hr.1, e1 hle, ncl]
        rw [if_pos ⟨gy, q⟩] at h
        exact ⟨vin (by omega), h _ _ (rb_set hr (by omega)) (fx.au (by simp))⟩
      · rw [if_neg (fun k => q k.2)]
        exact hr
    · rw [if_neg]
      · exact hr
      · intro k
        refine g (sf_iff.mpr ?_)
        by_cases c0 : w.length = 0
        · rw [getD_out (by omega)] at k
          exact absurd k.1 (by decide)
        · refine ⟨by simp; omega, (sa_iff (by simp)).mpr ⟨by simp; omega, fun j hj => ?_⟩⟩
          have : j = 0 := by simpa using hj
          subst this
          exact k.1
  | 3, _, h => exact t_M_porterStep_1s3 _ _ _ _ (c_replace (by omega) (.inl rfl) hr h)
  | 4, _, h => exact t_M_porterStep_1s4 _ _ _ _ (c_replace (by omega) (.inr rfl) hr h)
  | 5, _, h =>
    have epj : pst 5 w = match lg (ers (nI 5) 54) w with
      | none => w
      | some r => ptl w r := by
      rw [pst, if_neg (by decide), if_neg (by decide)]
      rfl
    refine t_M_porterStep_1s5 _ _ _ _ (c_longest (by omega) (.inr (.inr rfl)) hr (fun g => ct (by decide) (h _ _ ?_ fx.rf)) (fun i r hi hq g => ?_))
    · rw [epj, g]
      exact hr
    · have esb : sb 5 * i = i := Nat.one_mul i
      rw [g] at epj
      simp only at epj
      have hle := (lg_sf g).length_le
      obtain ⟨t1, t2, t3, t4, t5, t6, t7, _, t9⟩ := tb_at (.inr (.inr rfl)) hq
      obtain ⟨t8, t9⟩ := t9 rfl
      rw [esb] at t1 t2 ⊢
      refine cf npo ?_
      have ept : ptl w r = if hl r.2.2 w (w.length - r.1.length) then w.take (w.length - r.1.length) else w := by
        rw [ptl, if_neg (show ¬ (r.1 = [101, 100] ∨ r.1 = [105, 110, 103]) from fun k => k.elim t6 t7), t8, List.append_nil]
      refine c_fourth i (by omega) (c_lettersOf t1 ?_)
      rw [hr.1, nI_sub hle]
      have hms := ms_lt (w := w) (n := w.length - r.1.length)
      have no : ¬ hl r.2.2 w (w.length - r.1.length) → ev_Bv (d + 1) 150 244 [some (.ref 1033), some (.int (nI 5)), some (.int (nI i)), some (.int (nI (w.length - r.1.length))), none] I A V := fun q => by
        refine t_M_porterStep_244 _ _ _ _ ?_
        rw [hr.1]
        refine h _ _ ?_ (fx.iu (by simp))
        rw [epj, ept, if_neg q]
        exact rb_same hr
      have yes : hl r.2.2 w (w.length - r.1.length) → ev_Bv (d + 1) 150 240 [some (.ref 1033), some (.int (nI 5)), some (.int (nI i)), some (.int (nI (w.length - r.1.length))), none] I A V := fun q => by
        refine t_M_porterStep_240 _ _ _ _ (h _ _ ?_ (fx.iu (by simp)))
        rw [epj, ept, if_pos q]
        exact rb_cut hr (by omega)
      refine c_measure0 (by omega) hr (by omega) ?_
      by_cases c11 : i = 11
      · subst c11
        rw [if_pos rfl] at t9
        rw [t9] at no yes
        by_cases cm : 1 < ms w (w.length - r.1.length)
        · have e3 : nI (w.length - r.1.length) - 1 = nI (w.length - r.1.length - 1) := nI_sub (b := 1) (by omega)
          refine cf (nle (b := 1) cm) (ct rfl (cf (nle (b := 0) (by omega)) ?_))
          rw [e3, ncl, hr.2.2 _ (by omega)]
          refine ⟨vin (by omega), fun q => yes (hl4.mpr ⟨cm, .inl q⟩), fun q => ⟨vin (by omega), fun q' => yes (hl4.mpr ⟨cm, .inr q'⟩), fun q' => no (fun k => ?_)⟩⟩
          rcases (hl4.mp k).2 with k | k
          · exact q k
          · exact q' k
        · exact ct (ule (b := 1) (by omega)) (no (fun k => cm (hl4.mp k).1))
      · rw [if_neg c11] at t9
        rw [t9] at no yes
        by_cases cm : 1 < ms w (w.length - r.1.length)
        · exact cf (nle (b := 1) cm) (cf (neq (b := 11) c11) (yes (hl2.mpr cm)))
        · exact ct (ule (b := 1) (by omega)) (no (fun k => cm (hl2.mp k)))
  | 6, _, h =>
    rw [p6] at h
    refine t_M_porterStep_1s6 _ _ _ _ rfl (c_endsM (s := [101]) (by omega) (by decide +kernel) (by simp) (by simp) hr (fun g => z1 ?_) (fun g => z0 (h _ _ (by rw [if_neg g]; exact hr) fx.rf)))
    have hle : 1 ≤ w.length := g.length_le
    have e0 : nI w.length - 0 = nI w.length := nI_sub (b := 0) (by omega)
    rw [if_pos g] at h
    have hms := ms_lt (w := w) (n := w.length - 1)
    rw [hr.1, e1 hle]
    refine c_measure0 (by omega) hr (by omega) ?_
    rw [hr.1, e1 hle, e0]
    by_cases c1 : 1 < ms w (w.length - 1)
    · rw [if_pos (.inl c1)] at h
      exact ct (ult (a := 1) c1) (h _ _ (rb_cut hr (by omega)) (fx.iu (by simp)))
    refine cf (nlt (a := 1) (b := ms w (w.length - 1)) (by omega)) ?_
    by_cases c2 : ms w (w.length - 1) = 1
    · refine ct (by rw [c2]; rfl) (c_isO (by omega) hr (by omega) (fun q => z1 ?_) (fun q => z0 ?_))
      · rw [if_neg] at h
        · exact h _ _ (rb_same hr) (fx.iu (by simp))
        · rintro (k | k)
          · exact c1 k
          · exact k.2 q
      · rw [if_pos (.inr ⟨c2, q⟩)] at h
        exact h _ _ (rb_cut hr (by omega)) (fx.iu (by simp))
    · refine cf (neq (b := 1) c2) ?_
      rw [if_neg] at h
      · exact h _ _ (rb_same hr) (fx.iu (by simp))
      · rintro (k | k)
        · exact c1 k
        · exact c2 k.1
  | 7, _, h =>
    rw [pst, if_neg (by decide), if_pos rfl] at h
    refine t_M_porterStep_1sd _ _ _ _ _ (.inr (by rw [nI_toInt (by omega)]; omega)) (c_endsM (s := [108, 108]) (by omega) (by decide +kernel) (by simp) (by simp) hr (fun g => z1 ?_) (fun g => z0 (h _ _ (by rw [if_neg (fun k => g k.1)]; exact hr) fx.rf)))
    have hle : 2 ≤ w.length := g.length_le
    have hms := ms_lt (w := w) (n := w.length)
    rw [hr.1]
    refine c_measure0 (by omega) hr (by omega) ?_
    rw [hr.1, e1 (by omega)]
    by_cases c1 : 1 < ms w w.length
    · rw [if_pos ⟨g, c1⟩] at h
      exact cf (nle (b := 1) c1) (h _ _ (rb_cut hr (by omega)) (fx.iu (by simp)))
    · rw [if_neg (fun k => c1 k.2)] at h
      exact ct (ule (b := 1) (by omega)) (h _ _ hr fx.rf)
  | k + 8, hk, _ => omega
end CTR

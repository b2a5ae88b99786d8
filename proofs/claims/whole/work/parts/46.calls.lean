/-! MORE OF THE SIMPLE CALLS -/
section CTR
variable {d : Nat} {I A : Nat → Nat → Int32} {K : Int32 → (Nat → Nat → Int32) → (Nat → Nat → Int32) → Prop} {V : (Nat → Nat → Int32) → (Nat → Nat → Int32) → Prop} {t u w o : List Int32} {ws : List (List Int32)} {i N : Nat} {xs : Nat → Int32}
theorem u_token (hd : 1 ≤ d) (h : Sm N xs I A t ws o) (x y : Int32) : ev_Bi d 111 0 [some (.ref 1000), some (.int x), some (.int y)] I A (md d N xs 180 [some (.ref 1033), some (.int x), some (.int y)]) := by
  obtain ⟨d, rfl⟩ : ∃ e, d = e + 1 := ⟨d - 1, by omega⟩
  have h11 := Sm_S11 h
  obtain ⟨k, h9⟩ := h.2.2.2.2.2.2.2.2.1
  have hk := h9.1
  have no : (y < 0 ∨ 4 < y) → md (d + 1) N xs 180 [some (.ref 1033), some (.int x), some (.int y)] (-2) I A := fun c =>
    ⟨h11, t_M_token_0 _ _ (c_beyond (fun _ => z1 ⟨rfl, t, ws, o, h⟩) (fun n => absurd c n))⟩
  refine t_S_token_0 x y ⟨fun c => no (.inl c), fun c => ?_⟩
  obtain ⟨m, hm, rfl⟩ := nI_of c
  by_cases g : m < 5
  · refine ct (ult (b := 5) g) ?_
    have yes : ∀ K', K' 0 I A → ev_Bi d 120 0 [some (.int (nI m)), some (.int 0), some (.int 4)] I A K' := fun K' hK => by
      refine c_beyond (fun n => ?_) (fun _ => hK)
      rcases n with n | n
      · exact absurd n (npo hm)
      · exact absurd n (nlt (b := m) (a := 4) (by omega))
    have none : ¬ (∃ j, j < k ∧ x = nI j) → md (d + 1) N xs 180 [some (.ref 1033), some (.int x), some (.int (nI m))] (-5) I A := fun c => by
      refine ⟨h11, t_M_token_0 _ _ (yes _ (z0 (c_beyond (fun _ => z1 ⟨rfl, t, ws, o, h⟩) (fun n => absurd ?_ n))))⟩
      rw [h9.2.2.1, beyond0 (by omega)]
      exact c
    refine t_N_get_0 _ _ ⟨fun c => t_N_get_25 _ _ _ (none ?_), fun c => ?_⟩
    · rintro ⟨j, hj, rfl⟩
      exact npo (by omega) c
    · obtain ⟨j, hj, rfl⟩ := nI_of c
      rw [h9.2.1]
      by_cases q : j < k
      · have e5 : nI j * 5 = nI (j * 5) := nI_mul j 5
        have e5' : 5 * nI j = nI (5 * j) := nI_mul 5 j
        refine cf (nle q) (cf npo (cf (nle (a := 5) g) ?_))
        rw [e5, nI_add, ncl]
        refine ⟨vin (by omega), h11, t_M_token_0 _ _ (yes _ (z0 (c_beyond (fun n => ?_) (fun _ => z0 ?_))))⟩
        · rw [h9.2.2.1, beyond0 (by omega)] at n
          exact absurd ⟨j, q, rfl⟩ n
        · rw [e5', nI_add, ncl]
          refine ⟨vin (by omega), ?_, t, ws, o, h⟩
          rw [h9.2.2.2.2 _ (by omega), Nat.mul_comm]
      · refine ct (ule (by omega)) (t_N_get_25 _ _ _ (none ?_))
        rintro ⟨l, hl, e⟩
        rw [nI_eq hj (by omega)] at e
        omega
  · exact cf (nlt (b := 5) (by omega)) (no (.inr (ult (a := 4) (by omega))))
theorem u_least (hd : 1 ≤ d) (h : Sm N xs I A t ws o) (x : Int32) : ev_Bi d 107 0 [some (.ref 1000), some (.int x)] I A (md d N xs 168 [some (.ref 1033), some (.int x), none]) := by
  obtain ⟨d, rfl⟩ : ∃ e, d = e + 1 := ⟨d - 1, by omega⟩
  have h11 := Sm_S11 h
  have no : (x < 2 ∨ 12 < x) → md (d + 1) N xs 168 [some (.ref 1033), some (.int x), none] (-2) I A := fun c =>
    ⟨h11, t_M_least_0 _ (c_beyond (fun _ => z1 ⟨rfl, t, ws, o, h⟩) (fun n => absurd c n))⟩
  refine t_S_least_0 x ⟨fun c => no (.inl c), fun c => ⟨fun g => t_P_setLeast_0 _ ?_, fun g => no (.inr (Int32.not_le.mp g))⟩⟩
  have f1 : fx [(1023, 0)] [] I A (ev_upd I 1023 0 x) A := fx.iu (by simp)
  refine ⟨h11.fx f1 (by decide) (by decide), t_M_least_0 _ (c_beyond (fun n => ?_) (fun _ => z0 ?_))⟩
  · rcases n with n | n
    · exact absurd n c
    · exact absurd g (Int32.not_le.mpr n)
  · have g2 : fx [(1023, 0), (1033, 19)] [] I A (ev_upd (ev_upd I 1023 0 x) 1033 19 x) A := fx.tr (fx.iu (by simp)) (fx.iu (by simp))
    obtain ⟨h1, h2, h3, h4, h5, ⟨r, h6⟩, ⟨q, h7⟩, h8, ⟨k, h9⟩, h10, h11⟩ := h
    refine ⟨?_, t, ws, o, S1.fx h1 g2 (by decide) (by decide), S2.fx h2 g2 (by decide) (by decide), h3.fx g2 (by decide), h4.fx g2 (by decide), S5.fx h5 g2 (by decide) (by decide), ⟨r, h6.fx g2 (by decide) (by decide)⟩, ⟨q, h7.fx g2 (by decide) (by decide)⟩, ⟨?_, ?_⟩, ⟨k, h9.fx g2 (by decide) (by decide)⟩, h10.fx g2 (by decide) (by decide), h11.fx g2 (by decide) (by decide)⟩
    · rw [ev_upd_nk (by decide), h8.1]
    · rw [ev_upd_eq, ev_upd_nk (by decide), ev_upd_eq]
    · rw [ev_upd_nk (by decide), ev_upd_eq]
      rcases int_cases x with hx | ⟨j, hj, rfl⟩
      · exact absurd (Int32.lt_trans hx (by decide)) c
      · have h2 : ¬ nI j < nI 2 := c
        have h3 : nI j ≤ nI 12 := g
        rw [nI_ltI hj (by omega)] at h2
        rw [nI_leI hj (by omega)] at h3
        exact ⟨j, by omega, by omega, rfl⟩
theorem u_rowless (hd : 1 ≤ d) (h : Sm N xs I A t ws o) : ev_Bi d 104 0 [some (.ref 1000), none] I A (md d N xs 162 [some (.ref 1033), none]) := by
  obtain ⟨d, rfl⟩ : ∃ e, d = e + 1 := ⟨d - 1, by omega⟩
  refine t_S_rowless_0 (t_H_count_0 (t_H_dropRows_0 ?_))
  have f1 : fx [(1012, 5)] [] I A (ev_upd I 1012 5 0) A := fx.iu (by simp)
  refine ⟨(Sm_S11 h).fx f1 (by decide) (by decide), t_M_rowless_0 ?_⟩
  have g2 : fx [(1012, 5), (1033, 14)] [] I A (ev_upd (ev_upd I 1012 5 0) 1033 14 0) A := fx.tr (fx.iu (by simp)) (fx.iu (by simp))
  obtain ⟨h1, h2, h3, h4, h5, ⟨r, h6⟩, ⟨q, h7⟩, h8, ⟨k, h9⟩, h10, h11⟩ := h
  refine ⟨?_, t, ws, o, S1.fx h1 g2 (by decide) (by decide), S2.fx h2 g2 (by decide) (by decide), h3.fx g2 (by decide), h4.fx g2 (by decide), S5.fx h5 g2 (by decide) (by decide), ⟨0, ?_⟩, ⟨q, h7.fx g2 (by decide) (by decide)⟩, h8.fx g2 (by decide), ⟨k, h9.fx g2 (by decide) (by decide)⟩, h10.fx g2 (by decide) (by decide), h11.fx g2 (by decide) (by decide)⟩
  · rw [ev_upd_nk (by decide), h6.2.1, h6.2.2.1]
  · refine ⟨by omega, ?_, ?_, fun i hi => absurd hi (by omega)⟩
    · rw [ev_upd_nk (by decide), ev_upd_eq]
      rfl
    · rw [ev_upd_eq]
      rfl
theorem u_spell (hd : 3 ≤ d) (h : Sm N xs I A t ws o) (x : Int32) : ev_Bi d 97 0 [some (.ref 1000), some (.int x)] I A (md d N xs 131 [some (.ref 1033), some (.int x)]) := by
  obtain ⟨d, rfl⟩ : ∃ e, d = e + 1 := ⟨d - 1, by omega⟩
  have h11 := Sm_S11 h
  obtain ⟨hcw, hmw, ho, _⟩ := h.2.1
  refine t_S_spell_0 x (c_knows hcw ho (fun c => z1 ?_) (fun c => z0 ⟨h11, t_M_spell_0 _ (c_strange (by omega) hmw ho (fun _ => z1 ⟨rfl, t, ws, o, h⟩) (fun n => absurd n c))⟩))
  obtain ⟨i, w, rfl, hi⟩ := c
  refine c_copyTo (by omega) isL1 hcw ho hi h.2.2.2.2.1.1 (fun I1 A1 b1 f1 => c_size isL1 b1 ⟨h11.fx f1 (by decide) (by decide), ?_⟩)
  have hmw1 := hmw.fx f1 (by decide) (by decide) (by decide)
  have hk := ho.at hi
  refine t_M_spell_0 _ (c_strange (by omega) hmw1 ho (fun n => absurd ⟨i, w, rfl, hi⟩ n) (fun _ => z0 (c_take ho hi hmw1 (fun I2 A2 r2 f2 => c_show (by omega) r2 (fun I3 A3 o3 o3' f3 => ⟨rfl, t, ws, w, ?_⟩)))))
  have hg : fx ((1008, 1) :: (1033, 3) :: (1010, 1) :: jS) (1009 :: 1035 :: 1011 :: jT) I A I3 A3 := (f1.sub (by decide) (by decide)).tr ((f2.sub (by decide) (by decide)).tr (f3.sub (by decide) (by decide)))
  obtain ⟨a, ha⟩ := h.2.2.2.2.2.2.2.2.2.1.1
  exact Sm_sh h hg (((ha.fx f1 (by decide) (by decide)).fx f2 (by decide) (by decide)).fx f3 (by decide) (by decide)) ((b1.fx f2 (by decide) (by decide)).fx f3 (by decide) (by decide)) ⟨o3, o3'⟩
theorem u_pair (hd : 2 ≤ d) (h : Sm N xs I A t ws o) (x y : Int32) : ev_Bi d 102 0 [some (.ref 1000), some (.int x), some (.int y), none] I A (md d N xs 160 [some (.ref 1033), some (.int x), some (.int y), none]) := by
  obtain ⟨d, rfl⟩ : ∃ e, d = e + 1 := ⟨d - 1, by omega⟩
  have h11 := Sm_S11 h
  obtain ⟨hcw, hmw, ho, _⟩ := h.2.1
  refine t_S_pair_0 x y (c_knows hcw ho (fun c => z1 (c_knowsOrNone (by omega) hcw ho (fun e => z1 ?_) (fun e => z0 ⟨h11, t_M_pair_0 _ _ (c_strange (by omega) hmw ho (fun n => absurd c n) (fun _ => z0 (cf (fun q => e (.inl q)) (c_strange (by omega) hmw ho (fun _ => z1 ⟨rfl, t, ws, o, h⟩) (fun n => absurd (.inr n) e)))))⟩))) (fun c => z0 ⟨h11, t_M_pair_0 _ _ (c_strange (by omega) hmw ho (fun _ => z1 ⟨rfl, t, ws, o, h⟩) (fun n => absurd n c))⟩))
  obtain ⟨i, w, rfl, hi⟩ := c
  have hk := ho.at hi
  obtain ⟨d, rfl⟩ : ∃ e, d = e + 1 := ⟨d - 1, by omega⟩
  refine c_pairOf (by omega) hcw ho hi (t_W_setPair_0 _ _ (c_knows1 hcw ho hi (z1 ⟨vin (by omega), ?_⟩)))
  rw [ncl]
  have f1 : fx [] [1006] I A I (ev_upd A 1006 i y) := fx.au (by simp)
  have hmw1 := hmw.fx f1 (by decide) (by decide) (by decide)
  have h3 := h.2.2.1 i hk.2.1
  have fin : ∀ o3, ev_Bi (d + 1 + 1) 160 24 [some (.ref 1033), some (.int (nI i)), some (.int y), o3] I (ev_upd A 1006 i y) (fun z I' A' => z = A 1006 i ∧ Sim N xs I' A') := fun o3 => by
    refine t_M_pair_24 _ _ _ ⟨vin (by omega), vin (by omega), ?_⟩
    rw [ncl, ev_upd_ne (by decide)]
    have g2 : fx [] [1006, 1039] I A I (ev_upd (ev_upd A 1006 i y) 1039 i y) := fx.tr (fx.au (by simp)) (fx.au (by simp))
    refine ⟨h3.1, t, ws, o, ?_⟩
    obtain ⟨h1, h2, h3', h4, h5, ⟨r, h6⟩, ⟨q, h7⟩, h8, ⟨k, h9⟩, h10, h11⟩ := h
    refine ⟨S1.fx h1 g2 (by decide) (by decide), S2.fx h2 g2 (by decide) (by decide), fun j hj => ?_, h4.fx g2 (by decide), S5.fx h5 g2 (by decide) (by decide), ⟨r, h6.fx g2 (by decide) (by decide)⟩, ⟨q, h7.fx g2 (by decide) (by decide)⟩, h8.fx g2 (by decide), ⟨k, h9.fx g2 (by decide) (by decide)⟩, h10.fx g2 (by decide) (by decide), h11.fx g2 (by decide) (by decide)⟩
    rw [ev_upd_at, ev_upd_ne (a := 1039) (b := 1006) (by decide), ev_upd_at, ev_upd_ne (a := 1006) (b := 1039) (by decide)]
    by_cases c : j = i
    · rw [if_pos c, if_pos c]
      exact ⟨rfl, e⟩
    · rw [if_neg c, if_neg c]
      exact h3' j hj
  refine ⟨h11.fx f1 (by decide) (by decide), t_M_pair_0 _ _ (c_strange (by omega) hmw1 ho (fun n => absurd ⟨i, w, rfl, hi⟩ n) (fun _ => z0 ⟨fun c => fin _, fun c => c_strange (by omega) hmw1 ho (fun n => absurd ?_ n) (fun _ => z0 (fin _))⟩))⟩
  rcases e with e | e
  · exact absurd e c
  · exact e
theorem marks_bit : ∀ a b c : Bool, ∀ m : Fin 3, ((((if a then 1 else 0) + 2 * (if b then 1 else 0) + 4 * (if c then 1 else 0) : Int32) &&& (1 <<< (nI m &&& 31))) = 0) ↔ (if m = 0 then a else if m = 1 then b else c) = false := by decide
theorem b01_b {x : Int32} (h : b01 x) : ∃ a : Bool, x = if a then 1 else 0 := by
  rcases h with rfl | rfl
  · exact ⟨false, rfl⟩
  · exact ⟨true, rfl⟩
/-- the marks of the reference, as bits -/
theorem mark_get (h4 : S4 A ws) {i m : Nat} (hi : i < ws.length) (hm : m < 3) : (A 1038 i &&& (1 <<< (nI m &&& 31))) = 0 ↔ A 1007 (i * 3 + m) = 0 := by
  rw [h4.2.2 i hi]
  obtain ⟨a, ea⟩ := b01_b (h4.1 (i * 3))
  obtain ⟨b, eb⟩ := b01_b (h4.1 (i * 3 + 1))
  obtain ⟨c, ec⟩ := b01_b (h4.1 (i * 3 + 2))
  rw [ea, eb, ec, marks_bit a b c ⟨m, hm⟩]
  have hr : m = 0 ∨ m = 1 ∨ m = 2 := by omega
  rcases hr with rfl | rfl | rfl
  · rw [Nat.add_zero, ea]
    cases a <;> simp
  · rw [eb]
    cases b <;> simp
  · rw [ec]
    cases c <;> simp
theorem marks_set1 : ∀ a b c : Bool, ∀ m : Fin 3, (((if a then 1 else 0) + 2 * (if b then 1 else 0) + 4 * (if c then 1 else 0) : Int32) ||| (1 <<< (nI m &&& 31))) = (if m = 0 then 1 else if a then 1 else 0) + 2 * (if m = 1 then 1 else if b then 1 else 0) + 4 * (if m = 2 then 1 else if c then 1 else 0) := by decide
theorem marks_set0 : ∀ a b c : Bool, ∀ m : Fin 3, (((if a then 1 else 0) + 2 * (if b then 1 else 0) + 4 * (if c then 1 else 0) : Int32) &&& ((1 <<< (nI m &&& 31)) ^^^ (-1))) = (if m = 0 then 0 else if a then 1 else 0) + 2 * (if m = 1 then 0 else if b then 1 else 0) + 4 * (if m = 2 then 0 else if c then 1 else 0) := by decide
theorem mark_set (h4 : S4 A ws) {i m : Nat} (hi : i < ws.length) (hm : m < 3) (y v : Int32) (hy : (y = 1 ∧ v = (A 1038 i ||| (1 <<< (nI m &&& 31)))) ∨ (y = 0 ∧ v = (A 1038 i &&& ((1 <<< (nI m &&& 31)) ^^^ (-1))))) (A' : Nat → Nat → Int32) (h7 : ∀ j, A' 1007 j = if j = i * 3 + m then y else A 1007 j) (h8 : ∀ j, A' 1038 j = if j = i then v else A 1038 j) : S4 A' ws := by
  have hy01 : b01 y := by rcases hy with ⟨e, _⟩ | ⟨e, _⟩ <;> rw [e]; exact .inr rfl; exact .inl rfl
  refine ⟨fun j => ?_, fun j h1 h2 => ?_, fun k hk => ?_⟩
  · rw [h7]
    by_cases c : j = i * 3 + m
    · rw [if_pos c]
      exact hy01
    · rw [if_neg c]
      exact h4.1 j
  · rw [h7, if_neg (by omega)]
    exact h4.2.1 j h1 h2
  · rw [h8, h7, h7, h7]
    by_cases c : k = i
    · subst c
      rw [if_pos rfl]
      obtain ⟨a, ea⟩ := b01_b (h4.1 (k * 3))
      obtain ⟨b, eb⟩ := b01_b (h4.1 (k * 3 + 1))
      obtain ⟨c, ec⟩ := b01_b (h4.1 (k * 3 + 2))
      rw [h4.2.2 k hk, ea, eb, ec] at hy
      have e1 : (k * 3 = k * 3 + m) = ((⟨m, hm⟩ : Fin 3) = 0) := by simp [Fin.ext_iff]
      have e2 : (k * 3 + 1 = k * 3 + m) = ((⟨m, hm⟩ : Fin 3) = 1) := by simp [Fin.ext_iff]; omega
      have e3 : (k * 3 + 2 = k * 3 + m) = ((⟨m, hm⟩ : Fin 3) = 2) := by simp [Fin.ext_iff]; omega
      simp only [ea, eb, ec, e1, e2, e3]
      rcases hy with ⟨rfl, rfl⟩ | ⟨rfl, rfl⟩
      · exact marks_set1 a b c ⟨m, hm⟩
      · exact marks_set0 a b c ⟨m, hm⟩
    · rw [if_neg c, if_neg (by omega), if_neg (by omega), if_neg (by omega)]
      exact h4.2.2 k hk
theorem u_mark (hd : 2 ≤ d) (h : Sm N xs I A t ws o) (x y z : Int32) (hz : b01 z) : ev_Bi d 101 0 [some (.ref 1000), some (.int x), some (.int y), some (.int z)] I A (md d N xs 159 [some (.ref 1033), some (.int x), some (.int y), some (.int z), none, none]) := by
  obtain ⟨d, rfl⟩ : ∃ e, d = e + 1 := ⟨d - 1, by omega⟩
  have h11 := Sm_S11 h
  obtain ⟨hcw, hmw, ho, _⟩ := h.2.1
  refine t_S_mark_0 x y z (c_knows hcw ho (fun c => z1 ?_) (fun c => z0 ⟨h11, t_M_mark_0 _ _ _ (c_strange (by omega) hmw ho (fun _ => z1 ⟨rfl, t, ws, o, h⟩) (fun n => absurd n c))⟩))
  obtain ⟨i, w, rfl, hi⟩ := c
  have hk := ho.at hi
  have no : (x < 0 ∨ 2 < x) → md (d + 1) N xs 159 [some (.ref 1033), some (.int x), some (.int (nI i)), some (.int z), none, none] (-2) I A := fun c =>
    ⟨h11, t_M_mark_0 _ _ _ (c_strange (by omega) hmw ho (fun n => absurd ⟨i, w, rfl, hi⟩ n) (fun _ => z0 (c_beyond (fun _ => z1 ⟨rfl, t, ws, o, h⟩) (fun n => absurd c n))))⟩
  refine ⟨fun c => no (.inl c), fun c => ?_⟩
  obtain ⟨m, hm', rfl⟩ := nI_of c
  by_cases hm : m < 3
  · refine ct (ult (b := 3) hm) ?_
    obtain ⟨d, rfl⟩ : ∃ e, d = e + 1 := ⟨d - 1, by omega⟩
    have h4 := h.2.2.2.1
    have yes : ∀ (K' : Int32 → (Nat → Nat → Int32) → (Nat → Nat → Int32) → Prop) (B : Nat → Nat → Int32), K' 0 I B → ev_Bi (d + 1) 120 0 [some (.int (nI m)), some (.int 0), some (.int 2)] I B K' := fun K' B hK => by
      refine c_beyond (fun n => ?_) (fun _ => hK)
      rcases n with n | n
      · exact absurd n (npo hm')
      · exact absurd n (nlt (b := m) (a := 2) (by omega))
    have sim : ∀ v, ((z = 1 ∧ v = (A 1038 i ||| (1 <<< (nI m &&& 31)))) ∨ (z = 0 ∧ v = (A 1038 i &&& ((1 <<< (nI m &&& 31)) ^^^ (-1))))) → Sim N xs I (ev_upd (ev_upd A 1007 (i * 3 + m) z) 1038 i v) := fun v hv => by
      have g2 : fx [] [1007, 1038] I A I (ev_upd (ev_upd A 1007 (i * 3 + m) z) 1038 i v) := fx.tr (fx.au (by simp)) (fx.au (by simp))
      obtain ⟨h1, h2, h3, h4, h5, ⟨r, h6⟩, ⟨q, h7⟩, h8, ⟨k, h9⟩, h10, h11⟩ := h
      refine ⟨t, ws, o, S1.fx h1 g2 (by decide) (by decide), S2.fx h2 g2 (by decide) (by decide), h3.fx g2 (by decide), mark_set h4 hk.2.1 hm z v hv _ (fun j => ?_) (fun j => ?_), S5.fx h5 g2 (by decide) (by decide), ⟨r, h6.fx g2 (by decide) (by decide)⟩, ⟨q, h7.fx g2 (by decide) (by decide)⟩, h8.fx g2 (by decide), ⟨k, h9.fx g2 (by decide) (by decide)⟩, h10.fx g2 (by decide) (by decide), h11.fx g2 (by decide) (by decide)⟩
      · rw [ev_upd_ne (by decide), ev_upd_at]
      · rw [ev_upd_at, ev_upd_ne (a := 1007) (by decide)]
    /- the reference's answer, from a state in which the class's mark stands -/
    have fin : ∀ (B : Nat → Nat → Int32) (q : Int32), (∀ j, B 1038 j = A 1038 j) → mw I B ws → ((if A 1007 (i * 3 + m) = 0 then 0 else 1) = z ∧ q = 0 ∨ (if A 1007 (i * 3 + m) = 0 then 0 else 1) ≠ z ∧ q = 1) → (∀ v, ((z = 1 ∧ v = (A 1038 i ||| (1 <<< (nI m &&& 31)))) ∨ (z = 0 ∧ v = (A 1038 i &&& ((1 <<< (nI m &&& 31)) ^^^ (-1))))) → Sim N xs I (ev_upd B 1038 i v)) → ev_Bi (d + 1 + 1) 159 0 [some (.ref 1033), some (.int (nI m)), some (.int (nI i)), some (.int z), none, none] I B (fun y I' A' => y = q ∧ Sim N xs I' A') := fun B q hB hmB hq hs => by
      refine t_M_mark_0 _ _ _ (c_strange (by omega) hmB ho (fun n => absurd ⟨i, w, rfl, hi⟩ n) (fun _ => z0 (yes _ _ (z0 ⟨vin (by omega), ?_⟩))))
      rw [ncl, hB]
      have mg := mark_get h4 hk.2.1 hm
      by_cases c0 : A 1007 (i * 3 + m) = 0
      · rw [if_pos c0] at hq
        refine ct (mg.mpr c0) ?_
        rcases hz with rfl | rfl
        · refine z0 ⟨vin (by omega), vin (by omega), ct rfl ⟨?_, hs _ (.inr ⟨rfl, rfl⟩)⟩⟩
          rcases hq with ⟨_, e⟩ | ⟨e, _⟩
          · exact e.symm
          · exact absurd rfl e
        · refine z1 ⟨vin (by omega), vin (by omega), cf (by decide) ⟨?_, hs _ (.inl ⟨rfl, rfl⟩)⟩⟩
          rcases hq with ⟨e, _⟩ | ⟨_, e⟩
          · exact absurd e (by decide)
          · exact e.symm
      · rw [if_neg c0] at hq
        refine cf (fun n => c0 (mg.mp n)) ?_
        rcases hz with rfl | rfl
        · refine z0 ⟨vin (by omega), vin (by omega), cf (by decide) ⟨?_, hs _ (.inr ⟨rfl, rfl⟩)⟩⟩
          rcases hq with ⟨e, _⟩ | ⟨_, e⟩
          · exact absurd e (by decide)
          · exact e.symm
        · refine z1 ⟨vin (by omega), vin (by omega), ct rfl ⟨?_, hs _ (.inl ⟨rfl, rfl⟩)⟩⟩
          rcases hq with ⟨_, e⟩ | ⟨e, _⟩
          · exact e.symm
          · exact absurd rfl e
    have f1 : fx [] [1007] I A I (ev_upd A 1007 (i * 3 + m) z) := fx.au (by simp)
    have e3 : nI i * 3 = nI (i * 3) := nI_mul i 3
    have setm : ∀ V : (Nat → Nat → Int32) → (Nat → Nat → Int32) → Prop, V I (ev_upd A 1007 (i * 3 + m) z) → ev_Bv (d + 1) 89 0 [some (.ref 1003), some (.int (nI m)), some (.int (nI i)), some (.int z)] I A V := fun V hV => by
      refine t_W_setMark_0 _ _ _ (cf npo (cf (nle (a := 3) hm) (c_knows1 hcw ho hi (z1 ?_))))
      rw [e3, nI_add, ncl, b01_nar hz]
      exact ⟨vin (by omega), hV⟩
    have same : A 1007 (i * 3 + m) = z → ev_upd A 1007 (i * 3 + m) z = A := fun e => by
      funext x j
      unfold ev_upd
      by_cases c : x = 1007
      · rw [if_pos c]
        by_cases c' : j = i * 3 + m
        · rw [if_pos c', c, c', e]
        · rw [if_neg c']
      · rw [if_neg c]
    have done : ∀ q : Int32, b01 q → (∀ e : A 1007 (i * 3 + m) = q, (q = z → md (d + 1 + 1) N xs 159 [some (.ref 1033), some (.int (nI m)), some (.int (nI i)), some (.int z), none, none] 0 I A) ∧ (¬ q = z → ev_Bv (d + 1) 89 0 [some (.ref 1003), some (.int (nI m)), some (.int (nI i)), some (.int z)] I A (fun I9 A10 => md (d + 1 + 1) N xs 159 [some (.ref 1033), some (.int (nI m)), some (.int (nI i)), some (.int z), none, none] 1 I9 A10))) := fun q hq e => by
      have eif : (if A 1007 (i * 3 + m) = 0 then (0 : Int32) else 1) = q := by
        rw [e]
        rcases hq with rfl | rfl
        · rfl
        · rfl
      refine ⟨fun g => ⟨h11, fin A 0 (fun _ => rfl) hmw (.inl ⟨by rw [eif]; exact g, rfl⟩) (fun v hv => ?_)⟩, fun g => setm _ ⟨h11.fx f1 (by decide) (by decide), fin _ 1 (fun j => ev_upd_ne (by decide) j) (hmw.fx f1 (by decide) (by decide) (by decide)) (.inr ⟨by rw [eif]; exact g, rfl⟩) sim⟩⟩
      have := sim v hv
      rw [same (by rw [e, g])] at this
      exact this
    refine c_isMarked (by omega) hcw ho hm hi (fun e => done 1 (.inr rfl) ?_) (fun e => done 0 (.inl rfl) e)
    rcases h4.1 (i * 3 + m) with q | q
    · exact absurd q e
    · exact q
  · exact cf (nlt (b := 3) (by omega)) (no (.inr (ult (a := 2) (by omega))))
end CTR

/-! THE SIMPLE CALLS -/
theorem b01_nar {x : Int32} (h : b01 x) : vp_nar .boolean x = x := by
  rcases h with rfl | rfl
  · exact ev_nar_b0
  · exact ev_nar_b1
theorem and255 (y : Int32) : ∃ n : Nat, n < 256 ∧ y &&& 255 = nI n := by
  refine ⟨(y.toBitVec &&& 255#32).toNat, ?_, ?_⟩
  · rw [BitVec.toNat_and]
    have : (255#32).toNat = 255 := by decide
    rw [this]
    exact Nat.lt_of_le_of_lt Nat.and_le_right (by decide)
  · apply Int32.toBitVec_inj.mp
    show y.toBitVec &&& (255 : Int32).toBitVec = (Int32.ofNat _).toBitVec
    rw [show (255 : Int32).toBitVec = 255#32 by decide]
    show _ = BitVec.ofNat 32 _
    rw [BitVec.ofNat_toNat, BitVec.setWidth_eq]
theorem i2c_nI {n : Nat} (h : n < 65536) : ev_i2c (nI n) = nI n := by
  apply Int32.toBitVec_inj.mp
  apply BitVec.eq_of_toNat_eq
  show ((BitVec.ofNat 32 n) % 65536#32).toNat = (BitVec.ofNat 32 n).toNat
  rw [BitVec.toNat_umod, BitVec.toNat_ofNat]
  have : (65536#32).toNat = 65536 := by decide
  rw [this, Nat.mod_eq_of_lt (by omega : n < 2 ^ 32), Nat.mod_eq_of_lt h]
theorem shr_bits (x : BitVec 32) (s : Nat) (hs : s ≤ 24) : x.sshiftRight s &&& 255#32 = (x >>> s) &&& 255#32 := by
  apply BitVec.eq_of_getLsbD_eq
  intro i hi
  rw [BitVec.getLsbD_and, BitVec.getLsbD_and]
  by_cases c : i < 8
  · rw [BitVec.getLsbD_sshiftRight, BitVec.getLsbD_ushiftRight, if_pos (by omega)]
    have : decide (32 ≤ i) = false := by simp; omega
    rw [this]
    simp
  · have : (255#32).getLsbD i = false := by
      have e : (255#32) = BitVec.ofNat 32 (2 ^ 8 - 1) := rfl
      rw [e, BitVec.getLsbD_ofNat, Nat.testBit_two_pow_sub_one]
      simp
      omega
    rw [this, Bool.and_false, Bool.and_false]
theorem shr_eq (x : Int32) {s : Nat} (hs : s ≤ 24) : ev_ushr x (nI s) &&& 255 = (x >>> (nI s &&& 31)) &&& 255 := by
  have e31 : nI s &&& 31 = nI s := by
    apply Int32.toBitVec_inj.mp
    apply BitVec.eq_of_toNat_eq
    show (BitVec.ofNat 32 s &&& 31#32).toNat = (BitVec.ofNat 32 s).toNat
    rw [BitVec.toNat_and, BitVec.toNat_ofNat, Nat.mod_eq_of_lt (by omega : s < 2 ^ 32)]
    have : (31#32).toNat = 2 ^ 5 - 1 := by decide
    rw [this, Nat.and_two_pow_sub_one_eq_mod, Nat.mod_eq_of_lt (by omega)]
  rw [e31]
  apply Int32.toBitVec_inj.mp
  show (x.toBitVec >>> ((BitVec.ofNat 32 s &&& 31#32) % 32)) &&& 255#32 = x.toBitVec.sshiftRight' ((BitVec.ofNat 32 s).smod 32) &&& 255#32
  have a1 : ((BitVec.ofNat 32 s &&& 31#32) % 32).toNat = s := by
    rw [BitVec.toNat_umod, BitVec.toNat_and, BitVec.toNat_ofNat, Nat.mod_eq_of_lt (by omega : s < 2 ^ 32)]
    have : (31#32).toNat = 2 ^ 5 - 1 := by decide
    rw [this, Nat.and_two_pow_sub_one_eq_mod]
    have : (32 : BitVec 32).toNat = 32 := by decide
    rw [this]
    omega
  have a2 : ∀ s : Fin 25, ((BitVec.ofNat 32 s.val).smod 32).toNat = s.val := by decide
  have a3 := a2 ⟨s, by omega⟩
  simp only at a3
  rw [BitVec.sshiftRight', a3, shr_bits _ _ hs]
  congr 1
  show x.toBitVec >>> ((BitVec.ofNat 32 s &&& 31#32) % 32).toNat = _
  rw [a1]
abbrev byt (x : Int32) (s : Nat) : Int32 := (x >>> (nI s &&& 31)) &&& 255
theorem byt_by8 (x : Int32) (s : Nat) : by8 (byt x s) := by
  obtain ⟨n, hn, e⟩ := and255 (x >>> (nI s &&& 31))
  show by8 ((x >>> (nI s &&& 31)) &&& 255)
  rw [e]
  exact ⟨nge, ule (b := 255) (by omega)⟩
theorem byt_c (x : Int32) {s : Nat} (hs : s ≤ 24) : vp_nar .char (ev_i2c ((ev_ushr x (nI s)) &&& 255)) = byt x s := by
  rw [shr_eq x hs]
  show vp_nar .char (ev_i2c (byt x s)) = byt x s
  obtain ⟨n, hn, e⟩ := and255 (x >>> (nI s &&& 31))
  have e' : byt x s = nI n := e
  rw [e', i2c_nI (by omega), ev_fit3_nar (ev_fit3 (by omega))]
abbrev four (x : Int32) : List Int32 := [byt x 24, byt x 16, byt x 8, byt x 0]
section CTR
variable {d : Nat} {I A : Nat → Nat → Int32} {K : Int32 → (Nat → Nat → Int32) → (Nat → Nat → Int32) → Prop} {V : (Nat → Nat → Int32) → (Nat → Nat → Int32) → Prop} {t u w o : List Int32} {ws : List (List Int32)} {i N : Nat} {xs : Nat → Int32}
theorem tc_add (ht : tc I A t) (hl : t.length < 400) (c : Int32) : tc (ev_upd I 1001 1 (nI (t.length + 1))) (ev_upd A 1002 t.length c) (t ++ [c]) := by
  refine ⟨by rw [ev_upd_eq]; simp, by simp; omega, fun j hj => ?_⟩
  simp only [List.length_append, List.length_singleton] at hj
  rw [ev_upd_at, getD_app]
  by_cases e : j = t.length
  · subst e
    simp
  · rw [if_neg e, if_pos (by omega), ht.2.2 j (by omega)]
theorem tm_add (ht : tm I A t) (hl : t.length < 400) (c : Int32) : tm (ev_upd I 1033 1 (nI (t.length + 1))) (ev_upd A 1034 t.length c) (t ++ [c]) := by
  refine ⟨by rw [ev_upd_eq]; simp, by simp; omega, fun j hj => ?_⟩
  simp only [List.length_append, List.length_singleton] at hj
  rw [ev_upd_at, getD_app]
  by_cases e : j = t.length
  · subst e
    simp
  · rw [if_neg e, if_pos (by omega), ht.2.2 j (by omega)]
abbrev fT (I A I' A' : Nat → Nat → Int32) : Prop := fx [(1001, 1)] [1002] I A I' A'
abbrev fU (I A I' A' : Nat → Nat → Int32) : Prop := fx [(1033, 1)] [1034] I A I' A'
theorem sub8 {s : Nat} (h : 8 ≤ s) : nI s + (-8) = nI (s - 8) := by
  rw [← nI_sub h, Int32.sub_eq_add_neg]
  rfl
theorem c_addNumber_1 {x : Int32} {s : Nat} (hs : s ≤ 24) (ht : tc I A t) (hl : t.length < 400) (h : ∀ I' A', tc I' A' (t ++ [byt x s]) → fT I A I' A' → ev_Bv d 61 3 [some (.ref 1001), some (.int x), some (.int (nI s + (-8)))] I' A' V) : ev_Bv d 61 3 [some (.ref 1001), some (.int x), some (.int (nI s))] I A V := by
  refine t_T_addNumber_3 _ _ (cf npo ?_)
  rw [ht.1]
  refine cf (nle (a := 400) hl) ⟨vin hl, t_T_addNumber_44 _ _ ?_⟩
  rw [byt_c x hs, nI_1, ncl]
  exact h _ _ (tc_add ht hl _) (fx.tr (fx.iu (by simp)) (fx.au (by simp)))
theorem c_addNumber {x : Int32} (ht : tc I A t) (hl : t.length + 4 ≤ 400) (h : ∀ I' A', tc I' A' (t ++ four x) → fT I A I' A' → V I' A') : ev_Bv d 61 0 [some (.ref 1001), some (.int x), none] I A V := by
  refine t_T_addNumber_0 _ ?_
  refine c_addNumber_1 (s := 24) (by omega) ht (by omega) (fun I1 A1 h1 f1 => ?_)
  rw [sub8 (by omega)]
  refine c_addNumber_1 (s := 16) (by omega) h1 (by simp; omega) (fun I2 A2 h2 f2 => ?_)
  rw [sub8 (by omega)]
  refine c_addNumber_1 (s := 8) (by omega) h2 (by simp; omega) (fun I3 A3 h3 f3 => ?_)
  rw [sub8 (by omega)]
  refine c_addNumber_1 (s := 0) (by omega) h3 (by simp; omega) (fun I4 A4 h4 f4 => ?_)
  refine t_T_addNumber_3 _ _ (ct (by decide) (h _ _ ?_ (((f1.tr f2).tr f3).tr f4)))
  simpa using h4
theorem c_four_1 {x : Int32} {s : Nat} (hs : s ≤ 24) (ht : tm I A t) (hl : t.length < 400) (h : ∀ I' A', tm I' A' (t ++ [byt x s]) → fU I A I' A' → ev_Bv d 123 3 [some (.ref 1033), some (.int x), some (.int (nI s + (-8)))] I' A' V) : ev_Bv d 123 3 [some (.ref 1033), some (.int x), some (.int (nI s))] I A V := by
  refine t_M_four_3 _ _ (cf npo ?_)
  rw [ht.1]
  refine ⟨vin hl, ?_⟩
  rw [nI_1, ncl]
  exact h _ _ (tm_add ht hl _) (fx.tr (fx.iu (by simp)) (fx.au (by simp)))
theorem c_four {x : Int32} (ht : tm I A t) (hl : t.length + 4 ≤ 400) (h : ∀ I' A', tm I' A' (t ++ four x) → fU I A I' A' → V I' A') : ev_Bv d 123 0 [some (.ref 1033), some (.int x), none] I A V := by
  refine t_M_four_0 _ ?_
  refine c_four_1 (s := 24) (by omega) ht (by omega) (fun I1 A1 h1 f1 => ?_)
  rw [sub8 (by omega)]
  refine c_four_1 (s := 16) (by omega) h1 (by simp; omega) (fun I2 A2 h2 f2 => ?_)
  rw [sub8 (by omega)]
  refine c_four_1 (s := 8) (by omega) h2 (by simp; omega) (fun I3 A3 h3 f3 => ?_)
  rw [sub8 (by omega)]
  refine c_four_1 (s := 0) (by omega) h3 (by simp; omega) (fun I4 A4 h4 f4 => ?_)
  refine t_M_four_3 _ _ (ct (by decide) (h _ _ ?_ (((f1.tr f2).tr f3).tr f4)))
  simpa using h4
theorem four_by8 {x b : Int32} (h : b ∈ four x) : by8 b := by
  simp only [List.mem_cons, List.not_mem_nil, or_false] at h
  rcases h with rfl | rfl | rfl | rfl <;> exact byt_by8 _ _
/-- the tape has changed -/
theorem Sm_tp {t' : List Int32} {I' A' : Nat → Nat → Int32} (h : Sm N xs I A t ws o) (g : fx ((1001, 1) :: (1033, 1) :: jS) (1002 :: 1034 :: jT) I A I' A') (h1 : S1 I' A' t') : Sm N xs I' A' t' ws o := by
  obtain ⟨_, h2, h3, h4, h5, ⟨r, h6⟩, ⟨q, h7⟩, h8, ⟨k, h9⟩, h10, h11⟩ := h
  exact ⟨h1, S2.fx h2 g (by decide) (by decide), h3.fx g (by decide), h4.fx g (by decide), S5.fx h5 g (by decide) (by decide), ⟨r, h6.fx g (by decide) (by decide)⟩, ⟨q, h7.fx g (by decide) (by decide)⟩, h8.fx g (by decide), ⟨k, h9.fx g (by decide) (by decide)⟩, h10.fx g (by decide) (by decide), h11.fx g (by decide) (by decide)⟩
theorem u_feed (hd : 1 ≤ d) (h : Sm N xs I A t ws o) (a b c e f : Int32) : ev_Bi d 93 0 [some (.ref 1000), some (.int a), some (.int b), some (.int c), some (.int e), some (.int f)] I A (md d N xs 122 [some (.ref 1033), some (.int a), some (.int b), some (.int c), some (.int e), some (.int f)]) := by
  obtain ⟨d, rfl⟩ : ∃ e, d = e + 1 := ⟨d - 1, by omega⟩
  have hc := h.1.1
  have hm := h.1.2.1
  have hl := hc.2.1
  have e20 : nI t.length + 20 = nI (t.length + 20) := nI_add t.length 20
  refine t_S_feed_0 a b c e f (t_T_hasRoomForFive_0 ?_)
  rw [hc.1, e20]
  by_cases g : t.length + 20 ≤ 400
  · refine cf (nlt (b := t.length + 20) (a := 400) g) (z1 ?_)
    refine c_addNumber hc (by omega) (fun I1 A1 c1 f1 => c_addNumber c1 (by simp; omega) (fun I2 A2 c2 f2 => c_addNumber c2 (by simp; omega) (fun I3 A3 c3 f3 => c_addNumber c3 (by simp; omega) (fun I4 A4 c4 f4 => c_addNumber c4 (by simp; omega) (fun I5 A5 c5 f5 => t_T_size_0 ?_)))))
    have ff := (((f1.tr f2).tr f3).tr f4).tr f5
    refine ⟨h.2.2.2.2.2.2.2.2.2.2.fx ff (by decide) (by decide), ?_⟩
    have hm5 := hm.fx ff (by decide) (by decide)
    refine t_M_feed_0 _ _ _ _ _ ?_
    rw [hm5.1, e20, c5.1]
    refine ct (ule (a := t.length + 20) (b := 400) g) ?_
    refine c_four hm5 (by omega) (fun I1 A1 m1 q1 => c_four m1 (by simp; omega) (fun I2 A2 m2 q2 => c_four m2 (by simp; omega) (fun I3 A3 m3 q3 => c_four m3 (by simp; omega) (fun I4 A4 m4 q4 => c_four m4 (by simp; omega) (fun I6 A6 m5 q5 => ?_)))))
    have qq := (((q1.tr q2).tr q3).tr q4).tr q5
    refine ⟨m5.1, _, ws, o, Sm_tp h ((ff.sub (by simp) (by simp)).tr (qq.sub (by simp) (by simp))) ⟨c5.fx qq (by decide) (by decide), m5, fun b hb => ?_⟩⟩
    simp only [List.mem_append] at hb
    rcases hb with ((((hb | hb) | hb) | hb) | hb) | hb
    · exact h.1.2.2 b hb
    all_goals exact four_by8 hb
  · refine ct (ult (a := 400) (by omega)) (z0 ⟨h.2.2.2.2.2.2.2.2.2.2, t_M_feed_0 _ _ _ _ _ ?_⟩)
    rw [hm.1, e20]
    exact cf (nle (b := 400) (by omega)) ⟨rfl, t, ws, o, h⟩
theorem c_keep (ht : tc I A t) {j : Nat} (hj : j < 2147483648) (h : ∀ I' A', tc I' A' (t.take j) → fT I A I' A' → V I' A') : ev_Bv d 62 0 [some (.ref 1001), some (.int (nI j))] I A V := by
  refine t_T_keep_0 _ (cf npo ?_)
  have hl := ht.2.1
  rw [ht.1]
  by_cases c : t.length ≤ j
  · refine ct (ule c) (h _ _ ?_ fx.rf)
    rw [List.take_of_length_le c]
    exact ht
  · refine cf (nle (by omega)) (h _ _ ⟨?_, by simp; omega, fun k hk => ?_⟩ (fx.iu (by simp)))
    · rw [ev_upd_eq, List.length_take, Nat.min_eq_left (by omega)]
    · rw [List.length_take] at hk
      rw [getD_take (by omega), ht.2.2 k (by omega)]
theorem by8_take {j : Nat} (h : ∀ b ∈ t, by8 b) : ∀ b ∈ t.take j, by8 b := fun b hb => h b (List.mem_of_mem_take hb)
theorem u_cut (hd : 1 ≤ d) (h : Sm N xs I A t ws o) (x : Int32) : ev_Bi d 94 0 [some (.ref 1000), some (.int x), none] I A (md d N xs 124 [some (.ref 1033), some (.int x), none]) := by
  obtain ⟨d, rfl⟩ : ∃ e, d = e + 1 := ⟨d - 1, by omega⟩
  have hc := h.1.1
  have hm := h.1.2.1
  have hl := hc.2.1
  have no : (x < 0 ∨ nI t.length < x) → md (d + 1) N xs 124 [some (.ref 1033), some (.int x), none] (-2) I A := fun c => by
    refine ⟨h.2.2.2.2.2.2.2.2.2.2, t_M_cut_0 _ (c_beyond (fun _ => z1 ⟨rfl, t, ws, o, h⟩) (fun n => absurd ?_ n))⟩
    rw [hm.1]
    exact c
  refine t_S_cut_0 x (t_T_size_0 ⟨fun c => no (.inl c), fun c => ?_⟩)
  obtain ⟨j, hj, rfl⟩ := nI_of c
  rw [hc.1]
  refine ⟨fun g => c_keep hc hj (fun I1 A1 c1 f1 => ?_), fun g => no (.inr (Int32.not_le.mp g))⟩
  rw [nI_leI hj (by omega)] at g
  have hm1 := hm.fx f1 (by decide) (by decide)
  refine ⟨h.2.2.2.2.2.2.2.2.2.2.fx f1 (by decide) (by decide), t_M_cut_0 _ (c_beyond (fun n => ?_) (fun _ => z0 ?_))⟩
  · rw [hm1.1] at n
    rcases n with n | n
    · exact absurd n (npo hj)
    · exact absurd n (nlt g)
  · rw [hm1.1]
    refine ⟨rfl, t.take j, ws, o, Sm_tp h ((f1.sub (by simp) (by simp)).tr (fx.iu (by simp))) ⟨c1.fx (fx.iu (S := [(1033, 1)]) (T := []) (by simp)) (by decide) (by decide), ⟨?_, by simp; omega, fun k hk => ?_⟩, by8_take h.1.2.2⟩⟩
    · rw [ev_upd_eq, List.length_take, Nat.min_eq_left g]
    · rw [List.length_take] at hk
      rw [getD_take (by omega), hm1.2.2 k (by omega)]
theorem u_out (hd : 1 ≤ d) (h : Sm N xs I A t ws o) (x : Int32) : ev_Bi d 95 0 [some (.ref 1000), some (.int x)] I A (md d N xs 125 [some (.ref 1033), some (.int x)]) := by
  obtain ⟨d, rfl⟩ : ∃ e, d = e + 1 := ⟨d - 1, by omega⟩
  obtain ⟨hb, ho1, ho2⟩ := h.2.2.2.2.1
  have hl := hb.2.1
  have no : x ≠ -1 → (x < 0 ∨ nI o.length - 1 < x) → md (d + 1) N xs 125 [some (.ref 1033), some (.int x)] (-2) I A := fun n c => by
    refine ⟨h.2.2.2.2.2.2.2.2.2.2, t_M_out_0 _ (cf n (c_beyond (fun _ => z1 ⟨rfl, t, ws, o, h⟩) (fun n => absurd ?_ n)))⟩
    rw [ho1]
    exact c
  refine t_S_out_0 x ⟨fun c => c_size isL1 hb ⟨h.2.2.2.2.2.2.2.2.2.2, t_M_out_0 _ (ct c ⟨ho1, t, ws, o, h⟩)⟩, fun c => ⟨fun g => no c (.inl g), fun g => c_size isL1 hb ?_⟩⟩
  obtain ⟨j, hj, rfl⟩ := nI_of g
  by_cases q : j < o.length
  · refine cf (nle q) (c_at isL1 hb hj ⟨h.2.2.2.2.2.2.2.2.2.2, t_M_out_0 _ (cf c (c_beyond (fun n => ?_) (fun _ => z0 ⟨vin (by omega), ?_, t, ws, o, h⟩)))⟩)
    · rw [ho1, beyond0 (by omega)] at n
      exact absurd ⟨j, q, rfl⟩ n
    · rw [ncl, ho2 j q]
  · refine ct (ule (by omega)) (no c ?_)
    rw [beyond0 (by omega)]
    rintro ⟨k, hk, e⟩
    rw [nI_eq hj (by omega)] at e
    omega
theorem Sm_S11 (h : Sm N xs I A t ws o) : S11 N xs I A := h.2.2.2.2.2.2.2.2.2.2
theorem u_told (hd : 1 ≤ d) (h : Sm N xs I A t ws o) (x : Int32) : ev_Bi d 112 0 [some (.ref 1000), some (.int x)] I A (md d N xs 181 [some (.ref 1033), some (.int x)]) := by
  obtain ⟨d, rfl⟩ : ∃ e, d = e + 1 := ⟨d - 1, by omega⟩
  have h11 := Sm_S11 h
  have hh := h
  obtain ⟨⟨hc, hm, _⟩, ⟨hcw, hmw, ho, _⟩, _, _, _, ⟨r, h6⟩, ⟨q, h7⟩, h8, ⟨k, h9⟩, _, _⟩ := h
  refine t_S_told_0 x ?_
  by_cases c : x.toInt < 0 ∨ 5 < x.toInt
  · exact t_S_told_1sd x x c ⟨h11, t_M_told_0 x (t_M_told_1sd x x c ⟨rfl, t, ws, o, hh⟩)⟩
  · have hx : x = Int32.ofInt x.toInt := by rw [Int32.ofInt_toInt]
    have hr : x.toInt = 0 ∨ x.toInt = 1 ∨ x.toInt = 2 ∨ x.toInt = 3 ∨ x.toInt = 4 ∨ x.toInt = 5 := by omega
    rcases hr with e | e | e | e | e | e
    · have hx' : x = 0 := by rw [hx, e]; rfl
      subst hx'
      exact t_S_told_1s0 _ (t_W_count_0 ⟨h11, t_M_told_0 _ (t_M_told_1s0 _ ⟨by rw [hmw.1, hcw.1], t, ws, o, hh⟩)⟩)
    · have hx' : x = 1 := by rw [hx, e]; rfl
      subst hx'
      exact t_S_told_1s1 _ (t_N_count_0 ⟨h11, t_M_told_0 _ (t_M_told_1s1 _ ⟨by rw [h9.2.1, h9.2.2.1], t, ws, o, hh⟩)⟩)
    · have hx' : x = 2 := by rw [hx, e]; rfl
      subst hx'
      exact t_S_told_1s2 _ (t_H_count_0 ⟨h11, t_M_told_0 _ (t_M_told_1s2 _ ⟨by rw [h6.2.1, h6.2.2.1], t, ws, o, hh⟩)⟩)
    · have hx' : x = 3 := by rw [hx, e]; rfl
      subst hx'
      exact t_S_told_1s3 _ (t_B_count_0 ⟨h11, t_M_told_0 _ (t_M_told_1s3 _ ⟨by rw [h7.2.1, h7.2.2.1], t, ws, o, hh⟩)⟩)
    · have hx' : x = 4 := by rw [hx, e]; rfl
      subst hx'
      exact t_S_told_1s4 _ (t_N_positions_0 ⟨h11, t_M_told_0 _ (t_M_told_1s4 _ ⟨h9.2.2.2.1, t, ws, o, hh⟩)⟩)
    · have hx' : x = 5 := by rw [hx, e]; rfl
      subst hx'
      exact t_S_told_1s5 _ (t_T_size_0 ⟨h11, t_M_told_0 _ (t_M_told_1s5 _ ⟨by rw [hc.1, hm.1], t, ws, o, hh⟩)⟩)
end CTR

/-! NUMBERS AND BUFFERS -/
theorem nI_lit (n : Nat) : (OfNat.ofNat n : Int32) = nI n := rfl
theorem nI_sub {a b : Nat} (h : b ≤ a) : nI a - nI b = nI (a - b) := by
  have h1 : nI a = nI (a - b) + nI b := by rw [nI_add]; congr 1; omega
  rw [h1, Int32.add_sub_cancel]
theorem nI_mul (a b : Nat) : nI a * nI b = nI (a * b) := (Int32.ofNat_mul a b).symm
theorem nI_neg {n : Nat} (h : n < 2147483648) {x : Int32} (hx : x < 0) : ¬ nI n = x := by
  intro e
  rw [← e] at hx
  exact nI_pos h hx
theorem nI_subneg {a b : Nat} (ha : a < b) (hb : b < 2147483648) : nI a - nI b < 0 := by
  have h1 : (nI a - nI b).toInt = (a : Int) - b := by
    rw [Int32.toInt_sub, nI_toInt (by omega), nI_toInt hb]
    exact Int.bmod_eq_of_le (by simp; omega) (by simp; omega)
  rw [Int32.lt_iff_toInt_lt, h1, Int32.toInt_zero]
  omega
theorem ule {a b : Nat} (h : a ≤ b) (hb : b < 2147483648 := by omega) : nI a ≤ nI b := nI_le h hb
theorem nle {a b : Nat} (h : b < a) (ha : a < 2147483648 := by omega) : ¬ nI a ≤ nI b := nI_ge h ha
theorem ult {a b : Nat} (h : a < b) (hb : b < 2147483648 := by omega) : nI a < nI b := nI_lt h hb
theorem nlt {a b : Nat} (h : b ≤ a) (ha : a < 2147483648 := by omega) : ¬ nI a < nI b := nI_nlt h ha
theorem neq {a b : Nat} (h : a ≠ b) (ha : a < 2147483648 := by omega) (hb : b < 2147483648 := by omega) : ¬ nI a = nI b := fun e => h ((nI_eq ha hb).mp e)
theorem npo {a : Nat} (ha : a < 2147483648 := by omega) : ¬ nI a < 0 := nI_pos ha
theorem nge {a : Nat} (ha : a < 2147483648 := by omega) : (0 : Int32) ≤ nI a := nI_pos' ha
theorem nm5 {a : Nat} (ha : a < 2147483648 := by omega) : ¬ nI a = -5 := nI_neg ha (by decide)
theorem nm4 {a : Nat} (ha : a < 2147483648 := by omega) : ¬ nI a = -4 := nI_neg ha (by decide)
theorem nm1 {a : Nat} (ha : a < 2147483648 := by omega) : ¬ nI a = -1 := nI_neg ha (by decide)
theorem ncl {a : Nat} (ha : a < 2147483648 := by omega) : (nI a).toNatClampNeg = a := nI_clamp ha
theorem vin {n N : Nat} (h : n < N) (hN : N < 2147483648 := by omega) : vp_in (nI n) N := vp_in_nI h hN
/-- what an int is: a number or below 0 -/
theorem int_cases (x : Int32) : x < 0 ∨ ∃ j : Nat, j < 2147483648 ∧ x = nI j := by
  rcases Classical.em (x < 0) with h | h
  · exact .inl h
  · exact .inr (nI_of h)
theorem ct {c a b : Prop} (h : c) (ha : a) : (c → a) ∧ (¬ c → b) := ⟨fun _ => ha, fun n => absurd h n⟩
theorem cf {c a b : Prop} (h : ¬ c) (hb : b) : (c → a) ∧ (¬ c → b) := ⟨fun n => absurd n h, fun _ => hb⟩
theorem z0 {a b : Prop} (ha : a) : ((0 : Int32) = 0 → a) ∧ (¬ (0 : Int32) = 0 → b) := ct rfl ha
theorem z1 {a b : Prop} (hb : b) : ((1 : Int32) = 0 → a) ∧ (¬ (1 : Int32) = 0 → b) := cf (by decide) hb
theorem ev_fit3 {n : Nat} (h : n < 65536) : ev_fit 3 (nI n) = true := by
  simp only [ev_fit, Bool.and_eq_true, decide_eq_true_eq]
  exact ⟨nI_pos' (by omega), (nI_leI (b := 65535) (by omega) (by omega)).mpr (by omega)⟩
theorem ev_fit3_nar {x : Int32} (h : ev_fit 3 x = true) : vp_nar .char x = x := by
  simp only [ev_fit, Bool.and_eq_true, decide_eq_true_eq] at h
  show x.toUInt32.toUInt16.toUInt32.toInt32 = x
  exact ev_char h.1 h.2
theorem ev_nar_b0 : vp_nar .boolean 0 = 0 := by decide
theorem ev_nar_b1 : vp_nar .boolean 1 = 1 := by decide
/-- the text of a constant -/
abbrev tx (x : Nat) : List Int32 := ev_txs.getD x []
theorem tx_ok : ∀ l ∈ ev_txs, l.length ≤ 8 ∧ ∀ b ∈ l, ev_i2c (b &&& 255) = b ∧ ev_fit 3 b = true := by decide +kernel
theorem tx_len (x : Nat) : (tx x).length ≤ 8 := by
  unfold tx
  rw [List.getD_eq_getElem?_getD]
  cases h : ev_txs[x]? with
  | none => simp
  | some l => exact (tx_ok l (List.mem_of_getElem? h)).1
theorem tx_mem {x : Nat} {b : Int32} (h : b ∈ tx x) : ev_i2c (b &&& 255) = b ∧ ev_fit 3 b = true := by
  unfold tx at h
  rw [List.getD_eq_getElem?_getD] at h
  cases hc : ev_txs[x]? with
  | none => rw [hc] at h; cases h
  | some l => rw [hc] at h; exact (tx_ok l (List.mem_of_getElem? hc)).2 b h
theorem getD_mem {l : List Int32} {i : Nat} (h : i < l.length) : l.getD i 0 ∈ l := by
  rw [List.getD_eq_getElem?_getD, List.getElem?_eq_getElem h]
  exact List.getElem_mem h
theorem getD_out {l : List Int32} {i : Nat} (h : l.length ≤ i) : l.getD i 0 = 0 := by
  rw [List.getD_eq_getElem?_getD, List.getElem?_eq_none h]
  rfl
theorem getD_app {u v : List Int32} {j : Nat} : (u ++ v).getD j 0 = if j < u.length then u.getD j 0 else v.getD (j - u.length) 0 := by
  rw [List.getD_eq_getElem?_getD, List.getD_eq_getElem?_getD, List.getD_eq_getElem?_getD]
  by_cases h : j < u.length
  · rw [List.getElem?_append_left h, if_pos h]
  · rw [List.getElem?_append_right (by omega), if_neg h]
theorem getD_one {c : Int32} : [c].getD 0 0 = c := rfl
theorem getD_take {u : List Int32} {n j : Nat} (h : j < n) : (u.take n).getD j 0 = u.getD j 0 := by
  rw [List.getD_eq_getElem?_getD, List.getD_eq_getElem?_getD, List.getElem?_take_of_lt h]
theorem getD_drop {u : List Int32} {n j : Nat} : (u.drop n).getD j 0 = u.getD (n + j) 0 := by
  rw [List.getD_eq_getElem?_getD, List.getD_eq_getElem?_getD, List.getElem?_drop]
theorem getD_set {u : List Int32} {n j : Nat} {c : Int32} (h : j < u.length) : (u.set n c).getD j 0 = if j = n then c else u.getD j 0 := by
  rw [List.getD_eq_getElem?_getD, List.getD_eq_getElem?_getD, List.getElem?_set]
  by_cases e : n = j
  · subst e
    simp [h]
  · rw [if_neg e, if_neg (fun c => e c.symm)]
theorem lext {u v : List Int32} (hl : u.length = v.length) (h : ∀ j, j < u.length → u.getD j 0 = v.getD j 0) : u = v := by
  apply List.ext_getElem hl
  intro i h1 h2
  have := h i h1
  rw [List.getD_eq_getElem?_getD, List.getD_eq_getElem?_getD, List.getElem?_eq_getElem h1, List.getElem?_eq_getElem h2] at this
  exact this
/-- s stands at f in w -/
abbrev sa (w : List Int32) (f : Nat) (s : List Int32) : Prop := (w.drop f).take s.length = s
theorem sa_iff {w : List Int32} {f : Nat} {s : List Int32} (hs : s ≠ []) : sa w f s ↔ f + s.length ≤ w.length ∧ ∀ j, j < s.length → w.getD (f + j) 0 = s.getD j 0 := by
  unfold sa
  constructor
  · intro h
    have hl := congrArg List.length h
    simp only [List.length_take, List.length_drop] at hl
    have h0 : 0 < s.length := List.length_pos_iff.mpr hs
    refine ⟨by omega, fun j hj => ?_⟩
    rw [← getD_drop, ← getD_take hj, h]
  · rintro ⟨h1, h2⟩
    refine lext (by simp; omega) (fun j hj => ?_)
    have hj' : j < s.length := by simp at hj; omega
    rw [getD_take hj', getD_drop, h2 j hj']
theorem sa_nil {w : List Int32} {f : Nat} : sa w f [] := by simp [sa]
theorem sa_not {w : List Int32} {f : Nat} {s : List Int32} (hs : s ≠ []) {j : Nat} (hj : j < s.length) (h : ¬ w.getD (f + j) 0 = s.getD j 0) : ¬ sa w f s := fun c => h (((sa_iff hs).mp c).2 j hj)
theorem sa_len {w : List Int32} {f : Nat} {s : List Int32} (hs : s ≠ []) (h : w.length < f + s.length) : ¬ sa w f s := fun c => by
  have := ((sa_iff hs).mp c).1
  omega
theorem sf_iff {w s : List Int32} : s <:+ w ↔ s.length ≤ w.length ∧ sa w (w.length - s.length) s := by
  constructor
  · intro h
    have hl := h.length_le
    refine ⟨hl, ?_⟩
    unfold sa
    rw [← List.suffix_iff_eq_drop.mp h, List.take_length]
  · rintro ⟨h1, h2⟩
    rw [List.suffix_iff_eq_drop]
    unfold sa at h2
    rw [List.take_of_length_le (by simp; omega)] at h2
    exact h2.symm
theorem sf_eq {w s : List Int32} (h : s <:+ w) : w = w.take (w.length - s.length) ++ s := by
  have := List.suffix_iff_eq_drop.mp h
  conv => lhs; rw [← List.take_append_drop (w.length - s.length) w]
  rw [← this]
/-- a buffer of Letters holds w -/
def bu (I A : Nat → Nat → Int32) (L : Nat) (w : List Int32) : Prop := I L 1 = nI w.length ∧ w.length ≤ 24 ∧ (∀ j, j < w.length → A (L + 1) j = w.getD j 0) ∧ ∀ b ∈ w, ev_fit 3 b = true
/-- what changed stands in these lists -/
def fx (S : List (Nat × Nat)) (T : List Nat) (I A I' A' : Nat → Nat → Int32) : Prop := (∀ x k, (x, k) ∉ S → I' x k = I x k) ∧ ∀ x j, x ∉ T → A' x j = A x j
theorem fx.rf {S : List (Nat × Nat)} {T : List Nat} {I A : Nat → Nat → Int32} : fx S T I A I A := ⟨fun _ _ _ => rfl, fun _ _ _ => rfl⟩
theorem fx.tr {S : List (Nat × Nat)} {T : List Nat} {I A I' A' I2 A2 : Nat → Nat → Int32} (h : fx S T I A I' A') (g : fx S T I' A' I2 A2) : fx S T I A I2 A2 := ⟨fun x k hx => (g.1 x k hx).trans (h.1 x k hx), fun x j hx => (g.2 x j hx).trans (h.2 x j hx)⟩
theorem fx.iu {S : List (Nat × Nat)} {T : List Nat} {x k : Nat} {v : Int32} {I A : Nat → Nat → Int32} (h : (x, k) ∈ S) : fx S T I A (ev_upd I x k v) A := ⟨fun y j hy => by
  unfold ev_upd
  by_cases e : y = x
  · subst e
    rw [if_pos rfl, if_neg (fun (c : j = k) => hy (by rw [c]; exact h))]
  · rw [if_neg e], fun _ _ _ => rfl⟩
theorem fx.au {S : List (Nat × Nat)} {T : List Nat} {x k : Nat} {v : Int32} {I A : Nat → Nat → Int32} (h : x ∈ T) : fx S T I A I (ev_upd A x k v) := ⟨fun _ _ _ => rfl, fun y j hy => ev_upd_ne (fun (c : y = x) => hy (by rw [c]; exact h)) j⟩
theorem fx.sub {S S' : List (Nat × Nat)} {T T' : List Nat} {I A I' A' : Nat → Nat → Int32} (h : fx S T I A I' A') (hS : ∀ x ∈ S, x ∈ S') (hT : ∀ x ∈ T, x ∈ T') : fx S' T' I A I' A' := ⟨fun x k hx => h.1 x k (fun c => hx (hS _ c)), fun x j hx => h.2 x j (fun c => hx (hT _ c))⟩
/-- nothing but that buffer has changed -/
abbrev fr (L : Nat) (I A I' A' : Nat → Nat → Int32) : Prop := fx [(L, 1)] [L + 1] I A I' A'
theorem fr.rf {L : Nat} {I A : Nat → Nat → Int32} : fr L I A I A := fx.rf
theorem fr.tr {L : Nat} {I A I' A' I2 A2 : Nat → Nat → Int32} (h : fr L I A I' A') (g : fr L I' A' I2 A2) : fr L I A I2 A2 := fx.tr h g
theorem fr.iu {L : Nat} {v : Int32} {I A : Nat → Nat → Int32} : fr L I A (ev_upd I L 1 v) A := fx.iu (by simp)
theorem fr.au {L k : Nat} {v : Int32} {I A : Nat → Nat → Int32} : fr L I A I (ev_upd A (L + 1) k v) := fx.au (by simp)
theorem bu.fx {S : List (Nat × Nat)} {T : List Nat} {I A I' A' : Nat → Nat → Int32} {L : Nat} {w : List Int32} (h : bu I A L w) (g : fx S T I A I' A') (hS : (L, 1) ∉ S) (hT : L + 1 ∉ T) : bu I' A' L w :=
  ⟨(g.1 L 1 hS).trans h.1, h.2.1, fun j hj => (g.2 _ j hT).trans (h.2.2.1 j hj), h.2.2.2⟩
/-- the other buffers stay -/
theorem bu.ot {I A I' A' : Nat → Nat → Int32} {L M : Nat} {w : List Int32} (h : bu I A M w) (g : fr L I A I' A') (hL : ev_isL L) (hM : ev_isL M) (hn : M ≠ L) : bu I' A' M w := by
  unfold ev_isL at hL hM
  exact h.fx g (by simp; omega) (by simp; omega)
theorem ev_upd_eq {f : Nat → Nat → Int32} {a k : Nat} {v : Int32} : ev_upd f a k v a k = v := by simp [ev_upd]
theorem ev_upd_nk {f : Nat → Nat → Int32} {a k b j : Nat} {v : Int32} (h : ¬ (b = a ∧ j = k)) : ev_upd f a k v b j = f b j := by
  unfold ev_upd
  by_cases e : b = a
  · rw [if_pos e, if_neg (fun c => h ⟨e, c⟩)]
  · rw [if_neg e]

/-! NUMBERS AND BUFFERS -/
theorem nI_lit (n : Nat) : (OfNat.ofNat n : Int32) = nI n := rfl
theorem nI_sub {a b : Nat} (h : b ≤ a) : nI a - nI b = nI (a - b) := by
  have h1 : nI a = nI (a - b) + nI b := by rw [nI_add]; congr 1; omega
  rw [h1, Int32.add_sub_cancel]
theorem nI_mul (a b : Nat) : nI a * nI b = nI (a * b) := (Int32.ofNat_mul a b).symm
theorem nI_neg {n : Nat} (h : n < 2 ^ 31) {x : Int32} (hx : x < 0) : ¬ nI n = x := by
  intro e
  rw [← e] at hx
  exact nI_pos h hx
theorem nI_subneg {a b : Nat} (ha : a < b) (hb : b < 2 ^ 31) : nI a - nI b < 0 := by
  have h1 : (nI a - nI b).toInt = (a : Int) - b := by
    rw [Int32.toInt_sub, nI_toInt (by omega), nI_toInt hb]
    exact Int.bmod_eq_of_le (by simp; omega) (by simp; omega)
  rw [Int32.lt_iff_toInt_lt, h1, Int32.toInt_zero]
  omega
theorem vp_in_iff {n N : Nat} (hn : n < 2 ^ 31) (hN : N < 2 ^ 31) : vp_in (nI n) N ↔ n < N := by
  constructor
  · intro h
    rcases Nat.lt_or_ge n N with g | g
    · exact g
    · exfalso
      apply h
      right
      rw [nI_clamp hn]
      exact g
  · intro h
    exact vp_in_nI h hN
theorem ev_fit3 {n : Nat} (h : n < 65536) : ev_fit 3 (nI n) = true := by
  simp only [ev_fit, Bool.and_eq_true, decide_eq_true_eq]
  exact ⟨nI_pos' (by omega), (nI_leI (b := 65535) (by omega) (by omega)).mpr (by omega)⟩
theorem ev_fit3_nar {x : Int32} (h : ev_fit 3 x = true) : vp_nar .char x = x := by
  simp only [ev_fit, Bool.and_eq_true, decide_eq_true_eq] at h
  show x.toUInt32.toUInt16.toUInt32.toInt32 = x
  exact ev_char h.1 h.2
theorem ev_nar_b0 : vp_nar .boolean 0 = 0 := by decide
theorem ev_nar_b1 : vp_nar .boolean 1 = 1 := by decide
/-- the text of a constant -/
abbrev tx (x : Nat) : List Int32 := ev_txs.getD x []
theorem tx_ok : ∀ l ∈ ev_txs, l.length ≤ 8 ∧ ∀ b ∈ l, ev_i2c (b &&& 255) = b ∧ ev_fit 3 b = true := by decide +kernel
theorem tx_len (x : Nat) : (tx x).length ≤ 8 := by
  unfold tx
  rw [List.getD_eq_getElem?_getD]
  cases h : ev_txs[x]? with
  | none => simp
  | some l => exact (tx_ok l (List.mem_of_getElem? h)).1
theorem tx_mem {x : Nat} {b : Int32} (h : b ∈ tx x) : ev_i2c (b &&& 255) = b ∧ ev_fit 3 b = true := by
  unfold tx at h
  rw [List.getD_eq_getElem?_getD] at h
  cases hc : ev_txs[x]? with
  | none => rw [hc] at h; cases h
  | some l => rw [hc] at h; exact (tx_ok l (List.mem_of_getElem? hc)).2 b h
theorem getD_mem {l : List Int32} {i : Nat} (h : i < l.length) : l.getD i 0 ∈ l := by
  rw [List.getD_eq_getElem?_getD, List.getElem?_eq_getElem h]
  exact List.getElem_mem h
/-- a buffer of Letters holds w -/
def bu (I A : Nat → Nat → Int32) (L : Nat) (w : List Int32) : Prop := I L 1 = nI w.length ∧ w.length ≤ 24 ∧ (∀ j, j < w.length → A (L + 1) j = w.getD j 0) ∧ ∀ b ∈ w, ev_fit 3 b = true
/-- nothing but that buffer has changed -/
def fr (L : Nat) (I A I' A' : Nat → Nat → Int32) : Prop := (∀ x k, x ≠ L → I' x k = I x k) ∧ ∀ x j, x ≠ L + 1 → A' x j = A x j
theorem fr.rf {L : Nat} {I A : Nat → Nat → Int32} : fr L I A I A := ⟨fun _ _ _ => rfl, fun _ _ _ => rfl⟩
theorem fr.tr {L : Nat} {I A I' A' I2 A2 : Nat → Nat → Int32} (h : fr L I A I' A') (g : fr L I' A' I2 A2) : fr L I A I2 A2 := ⟨fun x k hx => (g.1 x k hx).trans (h.1 x k hx), fun x j hx => (g.2 x j hx).trans (h.2 x j hx)⟩
theorem fr.iu {L k : Nat} {v : Int32} {I A : Nat → Nat → Int32} : fr L I A (ev_upd I L k v) A := ⟨fun x k hx => ev_upd_ne hx k, fun _ _ _ => rfl⟩
theorem fr.au {L k : Nat} {v : Int32} {I A : Nat → Nat → Int32} : fr L I A I (ev_upd A (L + 1) k v) := ⟨fun _ _ _ => rfl, fun x j hx => ev_upd_ne hx j⟩
theorem bu.lt {I A : Nat → Nat → Int32} {L : Nat} {w : List Int32} (h : bu I A L w) : w.length < 2 ^ 31 := by
  have := h.2.1
  omega
theorem ev_upd_eq {f : Nat → Nat → Int32} {a k : Nat} {v : Int32} : ev_upd f a k v a k = v := by simp [ev_upd]
theorem isL_ne {L : Nat} (h : ev_isL L) : L + 1 ≠ L := by omega
theorem getD_app1 {w : List Int32} {c : Int32} {j : Nat} : (w ++ [c]).getD j 0 = if j = w.length then c else w.getD j 0 := by
  rw [List.getD_eq_getElem?_getD, List.getD_eq_getElem?_getD]
  by_cases h : j < w.length
  · rw [List.getElem?_append_left h, if_neg (by omega)]
  · rw [List.getElem?_append_right (by omega)]
    by_cases h2 : j = w.length
    · subst h2
      simp
    · rw [if_neg h2, List.getElem?_eq_none (by simp; omega), List.getElem?_eq_none (by omega)]

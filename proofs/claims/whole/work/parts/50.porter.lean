/-! PORTER: consonants and measures -/
abbrev vw (x : Int32) : Prop := x = 97 ∨ x = 101 ∨ x = 105 ∨ x = 111 ∨ x = 117
def cs (w : List Int32) : Nat → Bool
  | 0 => if w.getD 0 0 = 121 then true else !decide (vw (w.getD 0 0))
  | k + 1 => if w.getD (k + 1) 0 = 121 then !cs w k else !decide (vw (w.getD (k + 1) 0))
theorem cs_congr {u w : List Int32} {k : Nat} (h : ∀ j, j ≤ k → u.getD j 0 = w.getD j 0) : cs u k = cs w k := by
  induction k with
  | zero => rw [cs, cs, h 0 (by omega)]
  | succ k ih => rw [cs, cs, h (k + 1) (by omega), ih (fun j hj => h j (by omega))]
def pv (w : List Int32) (k : Nat) : Bool := decide (0 < k) && cs w k && !cs w (k - 1)
def ms (w : List Int32) (n : Nat) : Nat := bc (pv w) n
abbrev hv (w : List Int32) (n : Nat) : Prop := ∃ k, k < n ∧ cs w k = false
abbrev db (w : List Int32) (n : Nat) : Prop := 2 ≤ n ∧ w.getD (n - 1) 0 = w.getD (n - 2) 0 ∧ cs w (n - 1) = true ∧ cs w (n - 2) = true
abbrev so (w : List Int32) (n : Nat) : Prop := 3 ≤ n ∧ cs w (n - 1) = true ∧ cs w (n - 2) = false ∧ cs w (n - 3) = true ∧ w.getD (n - 1) 0 ≠ 119 ∧ w.getD (n - 1) 0 ≠ 120 ∧ w.getD (n - 1) 0 ≠ 121
theorem cs_take {w : List Int32} {n k : Nat} (h : k < n) : cs (w.take n) k = cs w k := cs_congr (fun j hj => getD_take (by omega))
theorem cs_app {u v : List Int32} {k : Nat} (h : k < u.length) : cs (u ++ v) k = cs u k := cs_congr (fun j hj => by rw [getD_app, if_pos (by omega)])
theorem pv_congr {u w : List Int32} {k : Nat} (h : ∀ j, j ≤ k → cs u j = cs w j) : pv u k = pv w k := by
  unfold pv
  rw [h k (by omega), h (k - 1) (by omega)]
theorem ms_take {w : List Int32} {n m : Nat} (h : n ≤ m) : ms (w.take m) n = ms w n := bc_congr (fun i hi => pv_congr (fun j hj => cs_take (by omega)))
theorem hv_take {w : List Int32} {n m : Nat} (h : n ≤ m) : hv (w.take m) n ↔ hv w n := by
  constructor
  · rintro ⟨k, hk, e⟩
    exact ⟨k, hk, by rw [← e, cs_take (by omega)]⟩
  · rintro ⟨k, hk, e⟩
    exact ⟨k, hk, by rw [← e, cs_take (by omega)]⟩
theorem ms_lt {w : List Int32} {n : Nat} : ms w n ≤ n := bc_le
abbrev cbn (z : Int32) (w : List Int32) (n : Nat) : Prop := ∀ i, i < n → gb z i = cs w i
theorem gb_or {x y : Int32} {i : Nat} : gb (x ||| y) i = (gb x i || gb y i) := BitVec.getLsbD_or
theorem gb_and {x y : Int32} {i : Nat} : gb (x &&& y) i = (gb x i && gb y i) := BitVec.getLsbD_and
theorem gb_out {x : Int32} {i : Nat} (h : 32 ≤ i) : gb x i = false := BitVec.getLsbD_of_ge _ _ h
theorem gb_not {x : Int32} {i : Nat} (h : i < 32) : gb (x ^^^ (-1)) i = !gb x i := by
  show (x.toBitVec ^^^ (-1 : Int32).toBitVec).getLsbD i = _
  rw [BitVec.getLsbD_xor]
  have : ∀ i : Fin 32, ((-1 : Int32).toBitVec).getLsbD i = true := by decide
  rw [this ⟨i, h⟩]
  simp
theorem gb_shl1 {x : Int32} {i : Nat} (h : i < 32) : gb (x <<< ((1 : Int32) &&& 31)) i = (decide (0 < i) && gb x (i - 1)) := by
  have e : (((1 : Int32) &&& 31).toBitVec.smod 32).toNat = 1 := by decide
  show (x.toBitVec <<< (((1 : Int32) &&& 31).toBitVec.smod 32).toNat).getLsbD i = _
  rw [e, BitVec.getLsbD_shiftLeft]
  by_cases c : i < 1
  · have : i = 0 := by omega
    subst this
    simp
  · have h0 : 0 < i := by omega
    simp [h, c, h0]
set_option maxRecDepth 100000 in
theorem gb_one : ∀ j : Fin 24, ∀ i : Fin 32, gb ((1 : Int32) <<< (nI j.val &&& 31)) i.val = decide (i.val = j.val) := by decide +kernel
set_option maxRecDepth 100000 in
theorem gb_low : ∀ j : Fin 25, ∀ i : Fin 32, gb (((1 : Int32) <<< (nI j.val &&& 31)) - 1) i.val = decide (i.val < j.val) := by decide +kernel
theorem gb_ushr {x : Int32} {s i : Nat} (hs : s < 32) : gb (ev_ushr x (nI s)) i = gb x (s + i) := by
  have a1 : ((BitVec.ofNat 32 s &&& 31#32) % 32).toNat = s := by
    rw [BitVec.toNat_umod, BitVec.toNat_and, BitVec.toNat_ofNat, Nat.mod_eq_of_lt (by omega : s < 2 ^ 32)]
    have : (31#32).toNat = 2 ^ 5 - 1 := by decide
    rw [this, Nat.and_two_pow_sub_one_eq_mod]
    have : (32 : BitVec 32).toNat = 32 := by decide
    rw [this]
    omega
  show (x.toBitVec >>> ((BitVec.ofNat 32 s &&& 31#32) % 32).toNat).getLsbD i = _
  rw [a1, BitVec.getLsbD_ushiftRight]
theorem gb_ext {x y : Int32} (h : ∀ i, i < 32 → gb x i = gb y i) : x = y := by
  apply Int32.toBitVec_inj.mp
  apply BitVec.eq_of_getLsbD_eq
  exact h
theorem and3 {y : Int32} : (y &&& 3 = 3) ↔ (gb y 0 = true ∧ gb y 1 = true) := by
  constructor
  · intro h
    have h0 := congrArg (fun z => gb z 0) h
    have h1 := congrArg (fun z => gb z 1) h
    simp only [gb_and] at h0 h1
    have e0 : gb 3 0 = true := by decide
    have e1 : gb 3 1 = true := by decide
    rw [e0, Bool.and_true] at h0
    rw [e1, Bool.and_true] at h1
    exact ⟨h0, h1⟩
  · rintro ⟨h0, h1⟩
    apply gb_ext
    intro i hi
    rw [gb_and]
    by_cases c0 : i = 0
    · subst c0
      rw [h0]
      rfl
    · by_cases c1 : i = 1
      · subst c1
        rw [h1]
        rfl
      · have : ∀ i : Fin 32, i.val ≠ 0 → i.val ≠ 1 → gb 3 i.val = false := by decide
        rw [this ⟨i, hi⟩ c0 c1, Bool.and_false]
theorem and7 {y : Int32} : (y &&& 7 = 5) ↔ (gb y 0 = true ∧ gb y 1 = false ∧ gb y 2 = true) := by
  constructor
  · intro h
    have h0 := congrArg (fun z => gb z 0) h
    have h1 := congrArg (fun z => gb z 1) h
    have h2 := congrArg (fun z => gb z 2) h
    simp only [gb_and] at h0 h1 h2
    have e0 : gb 7 0 = true := by decide
    have e1 : gb 7 1 = true := by decide
    have e2 : gb 7 2 = true := by decide
    have f0 : gb 5 0 = true := by decide
    have f1 : gb 5 1 = false := by decide
    have f2 : gb 5 2 = true := by decide
    rw [e0, Bool.and_true, f0] at h0
    rw [e1, Bool.and_true, f1] at h1
    rw [e2, Bool.and_true, f2] at h2
    exact ⟨h0, h1, h2⟩
  · rintro ⟨h0, h1, h2⟩
    apply gb_ext
    intro i hi
    rw [gb_and]
    by_cases c0 : i = 0
    · subst c0
      rw [h0]
      rfl
    · by_cases c1 : i = 1
      · subst c1
        rw [h1]
        rfl
      · by_cases c2 : i = 2
        · subst c2
          rw [h2]
          rfl
        · have : ∀ i : Fin 32, i.val ≠ 0 → i.val ≠ 1 → i.val ≠ 2 → gb 7 i.val = false ∧ gb 5 i.val = false := by decide
          have q := this ⟨i, hi⟩ c0 c1 c2
          simp only at q
          rw [q.1, q.2, Bool.and_false]
section CTR
variable {d : Nat} {I A : Nat → Nat → Int32} {K : Int32 → (Nat → Nat → Int32) → (Nat → Nat → Int32) → Prop} {V : (Nat → Nat → Int32) → (Nat → Nat → Int32) → Prop} {L n : Nat} {u w : List Int32} {z : Int32}
theorem c_consonantsOf_l (hd : 1 ≤ d) (hL : ev_isL L) (hb : bu I A L w) (h : ∀ z, cbn z w w.length → K z I A) : ∀ n j x1 x2 o4, j + n = w.length → (∀ i, gb x1 i = (decide (i < j) && cs w i)) → x2 = (if j = 0 then 0 else if cs w (j - 1) = true then 1 else 0) → ev_Bi d 47 6 [some (.ref L), some (.int x1), some (.int x2), some (.int (nI j)), o4] I A K := by
  obtain ⟨d, rfl⟩ : ∃ e, d = e + 1 := ⟨d - 1, by omega⟩
  have hl := hb.2.1
  intro n
  induction n with
  | zero =>
    intro j x1 x2 o4 hj hx hx2
    refine t_O_consonantsOf_6 hL _ _ _ _ (c_size hL hb (ct (ule (by omega)) (h _ (fun i hi => ?_))))
    have : i < j := by omega
    rw [hx, decide_eq_true this, Bool.true_and]
  | succ n ih =>
    intro j x1 x2 o4 hj hx hx2
    refine t_O_consonantsOf_6 hL _ _ _ _ (c_size hL hb (cf (nle (by omega)) (cf (nle (a := 24) (by omega)) (c_at hL hb (by omega) ?_))))
    have yes : cs w j = true → ev_Bi (d + 1) 47 70 [some (.ref L), some (.int (x1 ||| (1 <<< (nI j &&& 31)))), some (.int 1), some (.int (nI j)), some (.int (w.getD j 0))] I A K := fun e => by
      refine t_O_consonantsOf_70 hL _ _ _ _ ?_
      rw [nI_1]
      refine ih (j + 1) _ _ _ (by omega) (fun i => ?_) ?_
      · rw [gb_or, hx]
        by_cases c : i < 32
        · rw [gb_one ⟨j, by omega⟩ ⟨i, c⟩]
          by_cases c1 : i = j
          · subst c1
            simp [e]
          · have : decide (i < j + 1) = decide (i < j) := by
              by_cases c2 : i < j
              · simp [c2]; omega
              · simp [c2]; omega
            rw [this]
            simp [c1]
        · rw [gb_out (by omega)]
          have h1 : ¬ i < j := by omega
          have h2 : ¬ i < j + 1 := by omega
          simp [h1, h2]
      · simp [e]
    have no : cs w j = false → ev_Bi (d + 1) 47 70 [some (.ref L), some (.int x1), some (.int 0), some (.int (nI j)), some (.int (w.getD j 0))] I A K := fun e => by
      refine t_O_consonantsOf_70 hL _ _ _ _ ?_
      rw [nI_1]
      refine ih (j + 1) _ _ _ (by omega) (fun i => ?_) ?_
      · rw [hx]
        by_cases c1 : i = j
        · subst c1
          simp [e]
        · have : decide (i < j + 1) = decide (i < j) := by
            by_cases c2 : i < j
            · simp [c2]; omega
            · simp [c2]; omega
          rw [this]
      · simp [e]
    have csj : cs w j = if w.getD j 0 = 121 then (if j = 0 then true else !cs w (j - 1)) else !decide (vw (w.getD j 0)) := by
      cases j with
      | zero => rfl
      | succ j => rfl
    refine ⟨fun c => ?_, fun c => c_isVowel (fun v => z1 (no ?_)) (fun v => z0 (yes ?_))⟩
    · rw [if_pos c] at csj
      by_cases c0 : j = 0
      · rw [if_pos c0] at csj hx2
        exact ct hx2 (yes csj)
      · rw [if_neg c0] at csj hx2
        by_cases cc : cs w (j - 1) = true
        · rw [if_pos cc] at hx2
          rw [cc] at csj
          exact cf (by rw [hx2]; decide) (no csj)
        · rw [if_neg cc] at hx2
          rw [Bool.not_eq_true] at cc
          rw [cc] at csj
          exact ct hx2 (yes csj)
    · rw [if_neg c] at csj
      rw [csj, decide_eq_true v]
      rfl
    · rw [if_neg c] at csj
      rw [csj, decide_eq_false v]
      rfl
theorem c_consonantsOf (hd : 1 ≤ d) (hL : ev_isL L) (hb : bu I A L w) (h : ∀ z, cbn z w w.length → K z I A) : ev_Bi d 47 0 [some (.ref L), none, none, none, none] I A K := by
  obtain ⟨e, rfl⟩ : ∃ e, d = e + 1 := ⟨d - 1, by omega⟩
  refine t_O_consonantsOf_0 hL (c_consonantsOf_l hd hL hb h w.length 0 0 0 none (by omega) (fun i => ?_) rfl)
  have : gb 0 i = false := by
    by_cases c : i < 32
    · have h0 : ∀ i : Fin 32, gb 0 i.val = false := by decide
      exact h0 ⟨i, c⟩
    · exact gb_out (by omega)
  rw [this]
  simp
theorem c_lowest (hn : n ≤ 24) (h : ∀ z, (∀ i, gb z i = decide (i < n)) → K z I A) : ev_Bi d 49 0 [some (.int (nI n))] I A K := by
  refine t_O_lowest_0 _ ?_
  by_cases c : n = 0
  · subst c
    refine ct (by decide) (h _ (fun i => ?_))
    by_cases c : i < 32
    · have h0 : ∀ i : Fin 32, gb 0 i.val = false := by decide
      rw [h0 ⟨i, c⟩]
      simp
    · rw [gb_out (by omega)]
      simp
  · refine cf (nle (b := 0) (by omega)) (cf (nlt (b := n) (a := 24) hn) (h _ (fun i => ?_)))
    by_cases c : i < 32
    · exact gb_low ⟨n, by omega⟩ ⟨i, c⟩
    · rw [gb_out (by omega)]
      symm
      simp
      omega
theorem c_measureOf (hd : 1 ≤ d) (hc : cbn z w n) (hn : n ≤ 24) (h : K (nI (ms w n)) I A) : ev_Bi d 48 0 [some (.int z), some (.int (nI n))] I A K := by
  obtain ⟨e, rfl⟩ : ∃ e, d = e + 1 := ⟨d - 1, by omega⟩
  refine t_O_measureOf_0 _ _ (c_lowest hn (fun y hy => ?_))
  have key : ∀ i, gb ((z &&& ((z ^^^ (-1)) <<< ((1 : Int32) &&& 31))) &&& y) i = (decide (i < n) && pv w i) := fun i => by
    rw [gb_and, gb_and, hy]
    by_cases c : i < n
    · rw [gb_shl1 (by omega), hc i c]
      by_cases c0 : 0 < i
      · rw [gb_not (by omega), hc (i - 1) (by omega)]
        simp [pv, c, c0]
      · simp [pv, c, c0]
    · simp [c]
  refine c_bitCount (fun i hi => ?_) ?_
  · rw [key]
    have : ¬ i < n := by omega
    simp [this]
  · rw [bc_congr (fun i _ => key i), bc_cut hn]
    exact h
theorem c_hasV (hd : 1 ≤ d) (hc : cbn z w n) (hn : n ≤ 24) (h1 : hv w n → K 1 I A) (h0 : ¬ hv w n → K 0 I A) : ev_Bi d 50 0 [some (.int z), some (.int (nI n))] I A K := by
  obtain ⟨e, rfl⟩ : ∃ e, d = e + 1 := ⟨d - 1, by omega⟩
  refine t_O_hasV_0 _ _ (c_lowest hn (fun y hy => ⟨fun c => h0 ?_, fun c => h1 ?_⟩))
  · rintro ⟨k, hk, ek⟩
    have := congrArg (fun z => gb z k) c
    simp only [gb_and] at this
    have h00 : ∀ i : Fin 32, gb 0 i.val = false := by decide
    rw [gb_not (by omega), hy, hc k hk, ek, h00 ⟨k, by omega⟩] at this
    simp [hk] at this
  · apply Classical.byContradiction
    intro g
    apply c
    apply gb_ext
    intro i hi
    have h00 : ∀ i : Fin 32, gb 0 i.val = false := by decide
    rw [gb_and, gb_not hi, hy, h00 ⟨i, hi⟩]
    by_cases ci : i < n
    · rw [hc i ci]
      cases e : cs w i with
      | true => rfl
      | false => exact absurd ⟨i, ci, e⟩ g
    · simp [ci]
theorem c_endsDouble (hd : 1 ≤ d) (hL : ev_isL L) (hb : bu I A L u) (hn : n ≤ 24) (hc : cbn z u n) (h1 : db u n → K 1 I A) (h0 : ¬ db u n → K 0 I A) : ev_Bi d 51 0 [some (.ref L), some (.int z), some (.int (nI n))] I A K := by
  obtain ⟨e, rfl⟩ : ∃ e, d = e + 1 := ⟨d - 1, by omega⟩
  refine t_O_endsDouble_0 hL _ _ ?_
  by_cases c : n < 2
  · exact ct (ult (b := 2) c) (h0 (fun k => by have := k.1; omega))
  · refine cf (nlt (b := 2) (by omega)) ?_
    have e1 : nI n - 1 = nI (n - 1) := nI_sub (b := 1) (by omega)
    have e2 : nI n - 2 = nI (n - 2) := nI_sub (b := 2) (by omega)
    rw [e1, e2]
    refine c_at hL hb (by omega) (c_at hL hb (by omega) ⟨fun q => ?_, fun q => h0 (fun k => q k.2.1)⟩)
    rw [and3, gb_ushr (by omega), gb_ushr (by omega), hc _ (by omega), hc _ (by omega), Nat.add_zero, show n - 2 + 1 = n - 1 by omega]
    exact ⟨fun k => h1 ⟨by omega, q, k.2, k.1⟩, fun k => h0 (fun m => k ⟨m.2.2.2, m.2.2.1⟩)⟩
theorem c_endsShort (hd : 1 ≤ d) (hL : ev_isL L) (hb : bu I A L u) (hn : n ≤ 24) (hc : cbn z u n) (h1 : so u n → K 1 I A) (h0 : ¬ so u n → K 0 I A) : ev_Bi d 52 0 [some (.ref L), some (.int z), some (.int (nI n)), none] I A K := by
  obtain ⟨e, rfl⟩ : ∃ e, d = e + 1 := ⟨d - 1, by omega⟩
  refine t_O_endsShort_0 hL _ _ ?_
  by_cases c : n < 3
  · exact ct (ult (b := 3) c) (h0 (fun k => by have := k.1; omega))
  · refine cf (nlt (b := 3) (by omega)) ?_
    have e1 : nI n - 1 = nI (n - 1) := nI_sub (b := 1) (by omega)
    have e2 : nI n - 3 = nI (n - 3) := nI_sub (b := 3) (by omega)
    rw [e1, e2, and7, gb_ushr (by omega), gb_ushr (by omega), gb_ushr (by omega), hc _ (by omega), hc _ (by omega), hc _ (by omega), Nat.add_zero, show n - 3 + 1 = n - 2 by omega, show n - 3 + 2 = n - 1 by omega]
    refine ⟨fun k => c_at hL hb (by omega) ⟨fun q => h0 (fun m => m.2.2.2.2.1 q), fun q1 => ⟨fun q => h0 (fun m => m.2.2.2.2.2.1 q), fun q2 => ⟨fun q => h0 (fun m => m.2.2.2.2.2.2 q), fun q3 => h1 ⟨by omega, k.2.2, k.2.1, k.1, q1, q2, q3⟩⟩⟩⟩, fun k => h0 (fun m => k ⟨m.2.2.2.1, m.2.2.1, m.2.1⟩)⟩
end CTR

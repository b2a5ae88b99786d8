/-! CONSONANTS, AS BITS -/
def bc (f : Nat → Bool) : Nat → Nat
  | 0 => 0
  | n + 1 => bc f n + (if f n then 1 else 0)
theorem bc_congr {f g : Nat → Bool} {n : Nat} (h : ∀ i, i < n → f i = g i) : bc f n = bc g n := by
  induction n with
  | zero => rfl
  | succ n ih => rw [bc, bc, ih (fun i hi => h i (by omega)), h n (by omega)]
theorem bc_add {f : Nat → Bool} {m n : Nat} : bc f (m + n) = bc f m + bc (fun i => f (m + i)) n := by
  induction n with
  | zero => rfl
  | succ n ih => rw [← Nat.add_assoc, bc, ih, bc]; omega
theorem bc_le {f : Nat → Bool} {n : Nat} : bc f n ≤ n := by
  induction n with
  | zero => exact Nat.le_refl _
  | succ n ih => rw [bc]; split <;> omega
theorem bc_cut {g : Nat → Bool} {n m : Nat} (h : n ≤ m) : bc (fun i => decide (i < n) && g i) m = bc g n := by
  obtain ⟨k, rfl⟩ : ∃ k, m = n + k := ⟨m - n, by omega⟩
  rw [bc_add, bc_congr (g := g) (fun i hi => by simp [hi])]
  have : bc (fun i => decide (n + i < n) && g (n + i)) k = 0 := by
    induction k with
    | zero => rfl
    | succ k ih =>
      rw [bc, ih (by omega)]
      have : ¬ (n + k < n) := by omega
      simp [this]
  omega
/-- a mask, by bytes -/
theorem and256 {a m b M : Nat} (ha : a < 256) (hm : m < 256) : (a + 256 * b) &&& (m + 256 * M) = (a &&& m) + 256 * (b &&& M) := by
  have h3 : a &&& m < 2 ^ 8 := Nat.lt_of_le_of_lt Nat.and_le_left ha
  apply Nat.eq_of_testBit_eq
  intro i
  rw [Nat.testBit_and, Nat.add_comm a, Nat.add_comm m, Nat.add_comm (a &&& m)]
  show ((2 ^ 8 * b + a).testBit i && (2 ^ 8 * M + m).testBit i) = (2 ^ 8 * (b &&& M) + (a &&& m)).testBit i
  rw [Nat.testBit_two_pow_mul_add _ ha, Nat.testBit_two_pow_mul_add _ hm, Nat.testBit_two_pow_mul_add _ h3]
  by_cases c : i < 8
  · rw [if_pos c, if_pos c, if_pos c, Nat.testBit_and]
  · rw [if_neg c, if_neg c, if_neg c, Nat.testBit_and]
set_option maxRecDepth 100000 in
theorem pc1 : ∀ a : Fin 256, ∀ e : Fin 2, (a.val / 2 + 128 * e.val) &&& 85 = (a.val / 2) &&& 85 ∧ (a.val / 2) &&& 85 ≤ a.val := by decide +kernel
set_option maxRecDepth 100000 in
theorem pc2 : ∀ a : Fin 256, ∀ e : Fin 4, (a.val / 4 + 64 * e.val) &&& 51 = (a.val / 4) &&& 51 := by decide +kernel
def pS1 (a : Nat) : Nat := a - ((a / 2) &&& 85)
def pS2 (a : Nat) : Nat := (pS1 a &&& 51) + ((pS1 a / 4) &&& 51)
def pS3 (a : Nat) : Nat := (pS2 a + pS2 a / 16) &&& 15
set_option maxRecDepth 100000 in
theorem pc3 : ∀ a : Fin 256, pS1 a.val < 256 ∧ pS2 a.val ≤ 68 ∧ pS2 a.val % 16 ≤ 4 ∧ pS3 a.val = bc (fun i => Nat.testBit a.val i) 8 := by decide +kernel
set_option maxRecDepth 100000 in
theorem pc4 : ∀ a : Fin 69, ∀ e : Fin 5, (a.val + a.val / 16 + 16 * e.val) &&& 15 = (a.val + a.val / 16) &&& 15 := by decide +kernel
/-- Java's bit count, on numbers below 2 ^ 24 -/
def jb (x : Nat) : Nat :=
  let u1 := x - ((x / 2) &&& 1431655765)
  let u2 := (u1 &&& 858993459) + ((u1 / 4) &&& 858993459)
  let u3 := (u2 + u2 / 16) &&& 252645135
  let u4 := u3 + u3 / 256
  (u4 + u4 / 65536) &&& 63
theorem three {a b c m : Nat} (ha : a < 256) (hb : b < 256) (hc : c < 256) (hm : m < 256) : (a + 256 * (b + 256 * c)) &&& (m + 256 * (m + 256 * (m + 256 * m))) = (a &&& m) + 256 * ((b &&& m) + 256 * (c &&& m)) := by
  rw [and256 ha hm, and256 hb hm]
  have := and256 (a := c) (m := m) (b := 0) (M := m) hc hm
  rw [Nat.mul_zero, Nat.add_zero, Nat.zero_and, Nat.mul_zero, Nat.add_zero] at this
  rw [this]
theorem fin3 {a b c : Nat} (ha : a ≤ 8) (hb : b ≤ 8) (hc : c ≤ 8) : ((a + 256 * (b + 256 * c)) + (a + 256 * (b + 256 * c)) / 256 + ((a + 256 * (b + 256 * c)) + (a + 256 * (b + 256 * c)) / 256) / 65536) % 2 ^ 6 = a + b + c := by
  have h1 : (a + 256 * (b + 256 * c)) / 256 = b + 256 * c := by omega
  rw [h1]
  have h2 : (a + 256 * (b + 256 * c) + (b + 256 * c)) / 65536 = c := by omega
  rw [h2]
  omega
theorem jb_eq {a b c : Nat} (ha : a < 256) (hb : b < 256) (hc : c < 256) : jb (a + 256 * (b + 256 * c)) = pS3 a + pS3 b + pS3 c := by
  have e5 : 1431655765 = 85 + 256 * (85 + 256 * (85 + 256 * 85)) := by decide
  have e3 : 858993459 = 51 + 256 * (51 + 256 * (51 + 256 * 51)) := by decide
  have ef : 252645135 = 15 + 256 * (15 + 256 * (15 + 256 * 15)) := by decide
  have s1 : ((a + 256 * (b + 256 * c)) / 2) &&& 1431655765 = ((a / 2) &&& 85) + 256 * (((b / 2) &&& 85) + 256 * ((c / 2) &&& 85)) := by
    have d : (a + 256 * (b + 256 * c)) / 2 = (a / 2 + 128 * (b % 2)) + 256 * ((b / 2 + 128 * (c % 2)) + 256 * (c / 2)) := by omega
    rw [d, e5, three (by omega) (by omega) (by omega) (by omega), (pc1 ⟨a, ha⟩ ⟨b % 2, by omega⟩).1, (pc1 ⟨b, hb⟩ ⟨c % 2, by omega⟩).1]
  have q1 := (pc1 ⟨a, ha⟩ 0).2
  have q2 := (pc1 ⟨b, hb⟩ 0).2
  have q3 := (pc1 ⟨c, hc⟩ 0).2
  simp only at q1 q2 q3
  have u1 : (a + 256 * (b + 256 * c)) - (((a + 256 * (b + 256 * c)) / 2) &&& 1431655765) = pS1 a + 256 * (pS1 b + 256 * pS1 c) := by
    rw [s1]
    unfold pS1
    omega
  have r1 := pc3 ⟨a, ha⟩
  have r2 := pc3 ⟨b, hb⟩
  have r3 := pc3 ⟨c, hc⟩
  simp only at r1 r2 r3
  have u2 : ((pS1 a + 256 * (pS1 b + 256 * pS1 c)) &&& 858993459) + (((pS1 a + 256 * (pS1 b + 256 * pS1 c)) / 4) &&& 858993459) = pS2 a + 256 * (pS2 b + 256 * pS2 c) := by
    have p1 := pc2 ⟨pS1 a, r1.1⟩ ⟨pS1 b % 4, by omega⟩
    have p2 := pc2 ⟨pS1 b, r2.1⟩ ⟨pS1 c % 4, by omega⟩
    simp only at p1 p2
    have d : (pS1 a + 256 * (pS1 b + 256 * pS1 c)) / 4 = (pS1 a / 4 + 64 * (pS1 b % 4)) + 256 * ((pS1 b / 4 + 64 * (pS1 c % 4)) + 256 * (pS1 c / 4)) := by omega
    rw [d, e3, three (by omega) (by omega) (by omega) (by omega), three (by omega) (by omega) (by omega) (by omega), p1, p2]
    unfold pS2
    omega
  have u3 : ((pS2 a + 256 * (pS2 b + 256 * pS2 c)) + (pS2 a + 256 * (pS2 b + 256 * pS2 c)) / 16) &&& 252645135 = pS3 a + 256 * (pS3 b + 256 * pS3 c) := by
    have d : (pS2 a + 256 * (pS2 b + 256 * pS2 c)) + (pS2 a + 256 * (pS2 b + 256 * pS2 c)) / 16 = (pS2 a + pS2 a / 16 + 16 * (pS2 b % 16)) + 256 * ((pS2 b + pS2 b / 16 + 16 * (pS2 c % 16)) + 256 * (pS2 c + pS2 c / 16)) := by omega
    rw [d, ef, three (by omega) (by omega) (by omega) (by omega), pc4 ⟨pS2 a, by omega⟩ ⟨pS2 b % 16, by omega⟩, pc4 ⟨pS2 b, by omega⟩ ⟨pS2 c % 16, by omega⟩]
    rfl
  have k1 : pS3 a ≤ 8 := by rw [r1.2.2.2]; exact bc_le
  have k2 : pS3 b ≤ 8 := by rw [r2.2.2.2]; exact bc_le
  have k3 : pS3 c ≤ 8 := by rw [r3.2.2.2]; exact bc_le
  unfold jb
  simp only [u1, u2, u3]
  have e63 : 63 = 2 ^ 6 - 1 := by decide
  rw [e63, Nat.and_two_pow_sub_one_eq_mod]
  exact fin3 k1 k2 k3
theorem jb_bc {x : Nat} (h : x < 16777216) : jb x = bc (fun i => x.testBit i) 24 := by
  have e : x = x % 256 + 256 * (x / 256 % 256 + 256 * (x / 65536)) := by omega
  conv => lhs; rw [e]
  rw [jb_eq (by omega) (by omega) (by omega), (pc3 ⟨x % 256, by omega⟩).2.2.2, (pc3 ⟨x / 256 % 256, by omega⟩).2.2.2, (pc3 ⟨x / 65536, by omega⟩).2.2.2]
  rw [show 24 = 8 + (8 + 8) by rfl, bc_add, bc_add]
  have a1 : ∀ i, i < 8 → Nat.testBit (x % 256) i = x.testBit i := fun i hi => by
    show Nat.testBit (x % 2 ^ 8) i = _
    rw [Nat.testBit_mod_two_pow]
    simp [hi]
  have a2 : ∀ i, i < 8 → Nat.testBit (x / 256 % 256) i = x.testBit (8 + i) := fun i hi => by
    show Nat.testBit (x / 2 ^ 8 % 2 ^ 8) i = _
    rw [Nat.testBit_mod_two_pow, Nat.testBit_div_two_pow]
    simp [hi, Nat.add_comm]
  have a3 : ∀ i, i < 8 → Nat.testBit (x / 65536) i = x.testBit (8 + (8 + i)) := fun i hi => by
    show Nat.testBit (x / 2 ^ 16) i = _
    rw [Nat.testBit_div_two_pow]
    congr 1
    omega
  rw [bc_congr (fun i hi => a1 i hi), bc_congr (fun i hi => a2 i hi), bc_congr (fun i hi => a3 i hi)]
  exact Nat.add_assoc _ _ _
abbrev gb (z : Int32) (i : Nat) : Bool := z.toBitVec.getLsbD i
abbrev jbI (x0 : Int32) : Int32 := ((((((((x0 - ((ev_ushr x0 1) &&& 1431655765)) &&& 858993459) + ((ev_ushr (x0 - ((ev_ushr x0 1) &&& 1431655765)) 2) &&& 858993459)) + (ev_ushr (((x0 - ((ev_ushr x0 1) &&& 1431655765)) &&& 858993459) + ((ev_ushr (x0 - ((ev_ushr x0 1) &&& 1431655765)) 2) &&& 858993459)) 4)) &&& 252645135) + (ev_ushr (((((x0 - ((ev_ushr x0 1) &&& 1431655765)) &&& 858993459) + ((ev_ushr (x0 - ((ev_ushr x0 1) &&& 1431655765)) 2) &&& 858993459)) + (ev_ushr (((x0 - ((ev_ushr x0 1) &&& 1431655765)) &&& 858993459) + ((ev_ushr (x0 - ((ev_ushr x0 1) &&& 1431655765)) 2) &&& 858993459)) 4)) &&& 252645135) 8)) + (ev_ushr ((((((x0 - ((ev_ushr x0 1) &&& 1431655765)) &&& 858993459) + ((ev_ushr (x0 - ((ev_ushr x0 1) &&& 1431655765)) 2) &&& 858993459)) + (ev_ushr (((x0 - ((ev_ushr x0 1) &&& 1431655765)) &&& 858993459) + ((ev_ushr (x0 - ((ev_ushr x0 1) &&& 1431655765)) 2) &&& 858993459)) 4)) &&& 252645135) + (ev_ushr (((((x0 - ((ev_ushr x0 1) &&& 1431655765)) &&& 858993459) + ((ev_ushr (x0 - ((ev_ushr x0 1) &&& 1431655765)) 2) &&& 858993459)) + (ev_ushr (((x0 - ((ev_ushr x0 1) &&& 1431655765)) &&& 858993459) + ((ev_ushr (x0 - ((ev_ushr x0 1) &&& 1431655765)) 2) &&& 858993459)) 4)) &&& 252645135) 8)) 16)) &&& 63)
theorem nI_and (a b : Nat) : nI a &&& nI b = nI ((a % 2 ^ 32) &&& (b % 2 ^ 32)) := by
  apply Int32.toBitVec_inj.mp
  apply BitVec.eq_of_toNat_eq
  show (BitVec.ofNat 32 a &&& BitVec.ofNat 32 b).toNat = (BitVec.ofNat 32 _).toNat
  rw [BitVec.toNat_and, BitVec.toNat_ofNat, BitVec.toNat_ofNat, BitVec.toNat_ofNat, Nat.mod_eq_of_lt (a := _ &&& _)]
  exact Nat.lt_of_le_of_lt Nat.and_le_left (Nat.mod_lt _ (by decide))
theorem nI_and' {a b : Nat} (ha : a < 2 ^ 32) (hb : b < 2 ^ 32) : nI a &&& nI b = nI (a &&& b) := by
  rw [nI_and, Nat.mod_eq_of_lt ha, Nat.mod_eq_of_lt hb]
theorem nI_ushr {a : Nat} (ha : a < 2 ^ 32) (s : Nat) (hs : s < 32) : ev_ushr (nI a) (nI s) = nI (a / 2 ^ s) := by
  apply Int32.toBitVec_inj.mp
  apply BitVec.eq_of_toNat_eq
  show (BitVec.ofNat 32 a >>> ((BitVec.ofNat 32 s &&& 31#32) % 32)).toNat = (BitVec.ofNat 32 (a / 2 ^ s)).toNat
  have a1 : ((BitVec.ofNat 32 s &&& 31#32) % 32).toNat = s := by
    rw [BitVec.toNat_umod, BitVec.toNat_and, BitVec.toNat_ofNat, Nat.mod_eq_of_lt (by omega : s < 2 ^ 32)]
    have : (31#32).toNat = 2 ^ 5 - 1 := by decide
    rw [this, Nat.and_two_pow_sub_one_eq_mod]
    have : (32 : BitVec 32).toNat = 32 := by decide
    rw [this]
    omega
  show (BitVec.ofNat 32 a >>> ((BitVec.ofNat 32 s &&& 31#32) % 32).toNat).toNat = _
  rw [a1, BitVec.toNat_ushiftRight, BitVec.toNat_ofNat, BitVec.toNat_ofNat, Nat.mod_eq_of_lt ha, Nat.shiftRight_eq_div_pow, Nat.mod_eq_of_lt]
  exact Nat.lt_of_le_of_lt (Nat.div_le_self _ _) ha
theorem jbI_eq {x : Nat} (h : x < 16777216) : jbI (nI x) = nI (jb x) := by
  have l1 : ∀ a b : Nat, a &&& b ≤ b := fun a b => Nat.and_le_right
  have l0 : ∀ a b : Nat, a &&& b ≤ a := fun a b => Nat.and_le_left
  have e1 : ev_ushr (nI x) 1 = nI (x / 2) := nI_ushr (s := 1) (by omega) (by omega)
  have e2 : nI (x / 2) &&& 1431655765 = nI ((x / 2) &&& 1431655765) := nI_and' (b := 1431655765) (by omega) (by omega)
  have b2 := l0 (x / 2) 1431655765
  have e3 : nI x - nI ((x / 2) &&& 1431655765) = nI (x - ((x / 2) &&& 1431655765)) := nI_sub (by omega)
  unfold jbI jb
  simp only [e1, e2, e3]
  generalize hu1 : x - ((x / 2) &&& 1431655765) = u1
  have b3 : u1 < 16777216 := by omega
  have e4 : nI u1 &&& 858993459 = nI (u1 &&& 858993459) := nI_and' (b := 858993459) (by omega) (by omega)
  have e5 : ev_ushr (nI u1) 2 = nI (u1 / 4) := nI_ushr (s := 2) (by omega) (by omega)
  have e6 : nI (u1 / 4) &&& 858993459 = nI ((u1 / 4) &&& 858993459) := nI_and' (b := 858993459) (by omega) (by omega)
  have b4 := l0 u1 858993459
  have b5 := l0 (u1 / 4) 858993459
  simp only [e4, e5, e6, nI_add]
  generalize hu2 : (u1 &&& 858993459) + ((u1 / 4) &&& 858993459) = u2
  have b6 : u2 < 33554432 := by omega
  have e7 : ev_ushr (nI u2) 4 = nI (u2 / 16) := nI_ushr (s := 4) (by omega) (by omega)
  have e8 : nI (u2 + u2 / 16) &&& 252645135 = nI ((u2 + u2 / 16) &&& 252645135) := nI_and' (b := 252645135) (by omega) (by omega)
  have b7 := l1 (u2 + u2 / 16) 252645135
  simp only [e7, e8, nI_add]
  generalize hu3 : (u2 + u2 / 16) &&& 252645135 = u3 at b7 ⊢
  have e9 : ev_ushr (nI u3) 8 = nI (u3 / 256) := nI_ushr (s := 8) (by omega) (by omega)
  simp only [e9, nI_add]
  have e10 : ev_ushr (nI (u3 + u3 / 256)) 16 = nI ((u3 + u3 / 256) / 65536) := nI_ushr (s := 16) (by omega) (by omega)
  simp only [e10, nI_add]
  exact nI_and' (b := 63) (by omega) (by omega)
/-- an int whose bits stand below 24 -/
theorem low24 {z : Int32} (h : ∀ i, 24 ≤ i → gb z i = false) : ∃ x : Nat, x < 16777216 ∧ z = nI x ∧ ∀ i, gb z i = x.testBit i := by
  refine ⟨z.toBitVec.toNat, ?_, ?_, fun i => rfl⟩
  · apply Nat.lt_pow_two_of_testBit (n := 24)
    intro i hi
    exact h i hi
  · apply Int32.toBitVec_inj.mp
    show _ = BitVec.ofNat 32 _
    rw [BitVec.ofNat_toNat, BitVec.setWidth_eq]
section CTR
variable {d : Nat} {I A : Nat → Nat → Int32} {K : Int32 → (Nat → Nat → Int32) → (Nat → Nat → Int32) → Prop}
theorem c_bitCount {z : Int32} (h : ∀ i, 24 ≤ i → gb z i = false) (hK : K (nI (bc (gb z) 24)) I A) : ev_Bi d 182 0 [some (.int z)] I A K := by
  obtain ⟨x, hx, rfl, hb⟩ := low24 h
  refine t_J_bitCount_0 _ ?_
  show K (jbI (nI x)) I A
  rw [jbI_eq hx, jb_bc hx]
  rw [bc_congr (fun i _ => hb i)] at hK
  exact hK
end CTR

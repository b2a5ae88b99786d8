/-! System.arraycopy over int arrays -/
section EVX
variable {p : Program} {l : Launch} {en : Env} {R : Room} {s : State} {mid : MethodId} {args : Array Value} {below : List Frame} {meth : Method} {c : Code} {H : Heap} {locs : List Loc} {Q : State → Prop}
variable {B : Nat} {V : Nat → Value} {dC : Nat → ClassId} {dI : Nat → Nat → Nat} {dA : Nat → ClassId} {bytes : ByteArray} {k cells slots : Nat} {lsR : Array Slot} {rest : List Value} {σ : ev_M}
theorem ev_nn (z : Int32) (hz : ¬ z < 0) : z.toInt = (z.toNatClampNeg : Int) := by
  have hz0 : (0 : Int) ≤ z.toInt := by
    have := Int32.not_lt.mp hz
    simpa using Int32.le_iff_toInt_le.mp this
  show z.toInt = ((z.toInt.toNat : Nat) : Int)
  omega
set_option maxHeartbeats 4000000 in
theorem ev_Wcopy (hx : p.tables.exec = Jvm.exec) (hb : c.code = bytes) (hml : c.maxLocals = lsR.size) (hV : ev_V V B) (hTB : ev_TB s) (hK : va_K (dC, dI) vwCl (ev_tys dA) s) (hN : ev_New V B dC dI dA σ H) (hS : va_S (ev_B B) s.heap H locs) {own : String} (hown : s.vm.findClass own = some mid.cls)
    {i p0 p1 p2 p3 a b na nb : Nat} {sp dp n : Int32} (w0 : ev_w p0 (.methodLink own i arraycopyName) = true) (w1 : ev_w p1 (.native arraycopyName) = true) (w2 : ev_w p2 (.static arraycopyName) = true) (w3 : ev_w p3 (.initialized "java/lang/System") = true)
    (ha : 1000 ≤ a) (hat : a < σ.1) (hb0 : 1000 ≤ b) (hbt : b < σ.1) (hsa : ev_sh a = some (.inr (0, na))) (hsb : ev_sh b = some (.inr (0, nb))) (h1 : ¬ sp < 0) (h2 : ¬ dp < 0) (h3 : ¬ n < 0) (h4 : sp.toNatClampNeg + n.toNatClampNeg ≤ na) (h5 : dp.toNatClampNeg + n.toNatClampNeg ≤ nb)
    (hframes : 1 ≤ R.frames) (hlocals : (rest.map fun v => v.category).sum + 20 ≤ R.locals) (hd : decode bytes k = .ok (.invokestatic i, 3))
    (kk : ∀ (H' : Heap) (locs' : List Loc), ev_New V B dC dI dA (σ.1, σ.2.1, σ.2.2.1, fun x j => if x = b then va_cpy (σ.2.2.2 a) (σ.2.2.2 b) sp.toNatClampNeg dp.toNatClampNeg n.toNatClampNeg j else σ.2.2.2 x j) H' → va_S (ev_B B) s.heap H' locs' → W p l en R s mid args below meth c H' locs' cells slots Q (F0 mid (k + 3) lsR rest)) :
    W p l en R s mid args below meth c H locs cells slots Q (F0 mid k lsR (.int n :: .int dp :: V b :: .int sp :: V a :: rest)) := by
  rw [hV.2.1 a ha, hV.2.1 b hb0]
  obtain ⟨-, hc0⟩ := ev_new_arr hN ha hat hsa
  obtain ⟨-, hc1⟩ := ev_new_arr hN hb0 hbt hsb
  obtain ⟨-, k0, hk0, cm0, hkk0⟩ := (ev_fty_arr hK (t := 0) (by omega)).1 na (fun j => .int (σ.2.2.2 a j))
  obtain ⟨-, k1, hk1, cm1, hkk1⟩ := (ev_fty_arr hK (t := 0) (by omega)).1 nb (fun j => .int (σ.2.2.2 b j))
  intro T hT X
  obtain ⟨vm', X', step⟩ := X.arraycopy hx hown (hTB.use w0 args) (hTB.use w1 args) (hTB.use w2 args) (hTB.use w3 args) (src := B + (a - 1000)) (dst := B + (b - 1000)) (cs := arrV (dA 0) na (fun j => .int (σ.2.2.2 a j))) (cd := arrV (dA 0) nb (fun j => .int (σ.2.2.2 b j))) (srcPos := sp) (destPos := dp) (n := n) (by rw [hT]; exact hc0) (by rw [hT]; exact hc1)
    (fun _ h => by cases h) (fun _ h => by cases h) (fun h => by cases h) (fun h => by cases h) hk0 hk1 hkk0 hkk1 (by simp [ev_fty, refKind]) h1 h2 h3
    (by rw [ev_nn sp h1, ev_nn n h3]; rw [arrV_size]; omega)
    (by rw [ev_nn dp h2, ev_nn n h3]; rw [arrV_size]; omega)
    (fun vm₁ _ i hi => by
      have e : (arrV (dA 0) na (fun j => .int (σ.2.2.2 a j))).slots.getD (sp.toNatClampNeg + i) .null = .int (σ.2.2.2 a (sp.toNatClampNeg + i)) := by
        rw [Array.getD_eq_getD_getElem?, arrV_read _ _ (by omega)]
        rfl
      refine ⟨?_, ?_⟩
      · rw [e]
        rfl
      · rw [e]
        exact trivial)
    (g := F0 mid k lsR (.int n :: .int dp :: .ref (B + (b - 1000)) :: .int sp :: .ref (B + (a - 1000)) :: rest)) rfl (by rw [hml]) (rest := rest) rfl (by rw [hb]; exact hd) hframes (by show 2 * 0 + _ + _ ≤ _; simp [nativeFrameWords]; omega)
  have e1 : copied (arrV (dA 0) na (fun j => .int (σ.2.2.2 a j))) (arrV (dA 0) nb (fun j => .int (σ.2.2.2 b j))) sp dp n = arrV (dA 0) nb (fun j => .int (va_cpy (σ.2.2.2 a) (σ.2.2.2 b) sp.toNatClampNeg dp.toNatClampNeg n.toNatClampNeg j)) := va_copied (fun z => .int z) (dA 0) (dA 0) (σ.2.2.2 a) (σ.2.2.2 b) h4
  rw [e1] at X' step
  have hl : B + (b - 1000) < H.size := (Array.getElem?_eq_some_iff.mp hc1).1
  generalize hcell : arrV (dA 0) nb (fun j => .int (va_cpy (σ.2.2.2 a) (σ.2.2.2 b) sp.toNatClampNeg dp.toNatClampNeg n.toNatClampNeg j)) = cell at X' step
  have hheap : ((T.setVm vm').setCell (B + (b - 1000)) cell).heap = H.setIfInBounds (B + (b - 1000)) cell := by rw [← hT]; rfl
  have oq : ∀ q : Nat, q ≠ B + (b - 1000) → (H.setIfInBounds (B + (b - 1000)) cell)[q]? = H[q]? := fun q hq => by simp [Array.getElem?_setIfInBounds, Ne.symm hq]
  have ob : (H.setIfInBounds (B + (b - 1000)) cell)[B + (b - 1000)]? = some cell := by simp [Array.getElem?_setIfInBounds, hl]
  obtain ⟨t, a1, b1⟩ := kk _ _ (hN.put (σ' := (σ.1, σ.2.1, σ.2.2.1, fun x j => if x = b then va_cpy (σ.2.2.2 a) (σ.2.2.2 b) sp.toNatClampNeg dp.toNatClampNeg n.toNatClampNeg j else σ.2.2.2 x j)) hb0 hbt rfl (by simp) oq (fun y hy j => ⟨rfl, rfl, by simp [hy]⟩) (by
      unfold ev_cell
      rw [hsb]
      refine ⟨Nat.zero_lt_succ 2, ?_⟩
      rw [ob, ← hcell]
      simp)) ⟨by simp; exact hS.1, fun q g1 g2 => by
      rw [oq q (fun e => g2 (by rw [e]; exact Nat.le_add_right _ _))]
      exact hS.2.1 q g1 g2, fun q hq => by
      rcases List.mem_append.mp hq with h | h
      · exact hS.2.2 q h
      · obtain ⟨z, -, hz⟩ := List.mem_map.mp h
        rw [← hz]
        exact Nat.le_add_right _ _⟩ _ hheap X'
  exact ⟨t, step t a1, b1⟩
end EVX

/-! THE HEAP: reading and writing cells -/
theorem ev_next_some {a k' : Nat} {b ls' : List (Option Value)} {c st' : List Value} {d σ' : ev_M} (h : ev_next a b c d = some (.inl (k', ls', st', σ'))) : k' = a ∧ ls' = b ∧ st' = c ∧ σ' = d := by
  simp only [ev_next, Option.some.injEq, Sum.inl.injEq, Prod.mk.injEq] at h
  exact ⟨h.1.symm, h.2.1.symm, h.2.2.1.symm, h.2.2.2.symm⟩
section EVH
variable {p : Program} {l : Launch} {en : Env} {R : Room} {s : State} {mid : MethodId} {args : Array Value} {below : List Frame} {meth : Method} {c : Code} {H : Heap} {locs : List Loc} {Q : State → Prop} {cells slots : Nat}
variable {B : Nat} {V : Nat → Value} {dC : Nat → ClassId} {dI : Nat → Nat → Nat} {dA : Nat → ClassId}
theorem ev_fty_arr (hK : va_K (dC, dI) vwCl (ev_tys dA) s) {t : Nat} (ht : t < 3) : ArrOfT s (dA t) (ev_fty t) ∧ va_RA s (dA t) (ev_fty t) := by
  match t, ht with
  | 0, _ => exact hK.2 0 (dA 0, .int) rfl
  | 1, _ => exact hK.2 1 (dA 1, .char) rfl
  | 2, _ => exact hK.2 2 (dA 2, .boolean) rfl
/-- an array, old or new, as the heap has it -/
theorem ev_arr (hV : ev_V V B) (hK : va_K (dC, dI) vwCl (ev_tys dA) s) {σ : ev_M} (hN : ev_New V B dC dI dA σ H) (hA : ev_OA V B σ s s.heap) (hS : va_S (ev_B B) s.heap H locs) {x t n : Nat} (hx : ev_len σ x = some (t, n)) :
    ∃ (a : Nat) (cell : Cell), V x = .ref a ∧ H[a]? = some cell ∧ s.isArrayOf cell (ev_fty t) ∧ cell.vm ≠ .unknown ∧ n ≤ cell.slots.size ∧ cell.slots.size.toInt32 = Int32.ofNat n ∧ ∀ j, j < n → cell.slots[j]? = some (ev_av V (ev_get σ x j)) := by
  unfold ev_len at hx
  split at hx
  · rename_i hlt
    split at hx
    · rename_i q hq
      cases hx
      obtain ⟨a, e1, cell, h1, h2, h3, h4, h5, h6, h7⟩ := hA x q hq
      refine ⟨a, cell, e1, ?_, h2, h3, h4, h5, fun j hj => ?_⟩
      · rw [hS.2.1 a (Array.getElem?_eq_some_iff.mp h1).1 h7]
        exact h1
      · rw [h6 j hj]
        simp [ev_get, hlt, hq]
    · cases hx
  · rename_i hge
    split at hx
    · rename_i hlt
      have hc := hN.2.2.1 x (by omega) hlt
      unfold ev_cell at hc
      split at hx
      · rename_i q hq
        cases hx
        rw [hq] at hc
        obtain ⟨ht, hc⟩ := hc
        refine ⟨_, _, hV.2.1 x (by omega), hc, (ev_fty_arr hK ht).1 _ _, (fun h => by cases h), by rw [arrV_size]; exact Nat.le_refl _, by rw [arrV_size], fun j hj => ?_⟩
        rw [arrV_read _ _ hj]
        simp [ev_get, hge, ev_av]
      · cases hx
    · cases hx
theorem ev_ald_some {σ : ev_M} {t x : Nat} {i : Int32} {f : Value → Option ev_O} {z : ev_O} (h : ev_ald σ t x i f = some z) : ∃ n, ev_len σ x = some (t, n) ∧ ¬ i < 0 ∧ i.toNatClampNeg < n ∧ f (ev_get σ x i.toNatClampNeg) = some z := by
  unfold ev_ald at h
  split at h
  · rename_i t' n hl
    split at h
    · rename_i ht
      split at h
      · cases h
      · rename_i hn
        subst ht
        exact ⟨n, hl, fun q => hn (Or.inl q), Nat.not_le.mp fun q => hn (Or.inr q), h⟩
    · cases h
  · cases h
theorem ev_ast_some {σ : ev_M} {t x : Nat} {i v : Int32} {f : ev_M → Option ev_O} {z : ev_O} (h : ev_ast σ t x i v f = some z) : 1000 ≤ x ∧ x < σ.1 ∧ ∃ n, ev_sh x = some (.inr (t, n)) ∧ ¬ i < 0 ∧ i.toNatClampNeg < n ∧ f (σ.1, σ.2.1, σ.2.2.1, ev_upd σ.2.2.2 x i.toNatClampNeg v) = some z := by
  unfold ev_ast at h
  split at h
  · cases h
  · rename_i hx
    split at h
    · rename_i t' n hl
      split at h
      · rename_i ht
        split at h
        · cases h
        · rename_i hn
          subst ht
          unfold ev_len at hl
          rw [if_neg hx] at hl
          split at hl
          · rename_i hlt
            split at hl
            · rename_i q hq
              cases hl
              exact ⟨by omega, hlt, n, hq, fun q => hn (Or.inl q), Nat.not_le.mp fun q => hn (Or.inr q), h⟩
            · cases hl
          · cases hl
      · cases h
    · cases h
/-- a cell is written: the others stay -/
theorem ev_New.put {σ σ' : ev_M} (hN : ev_New V B dC dI dA σ H) {H1 : Heap} {x : Nat} (hx : 1000 ≤ x) (hxt : x < σ.1) (ht : σ'.1 = σ.1) (hz : H1.size = H.size) (ho : ∀ q, q ≠ B + (x - 1000) → H1[q]? = H[q]?)
    (hr : ∀ y, y ≠ x → ∀ k, ev_Rf σ'.2.1 y k = ev_Rf σ.2.1 y k ∧ σ'.2.2.1 y k = σ.2.2.1 y k ∧ σ'.2.2.2 y k = σ.2.2.2 y k) (hc : ev_cell V B dC dI dA σ' H1 x) : ev_New V B dC dI dA σ' H1 := by
  refine ⟨by rw [ht]; exact hN.1, by rw [hz, ht]; exact hN.2.1, fun y hy hyt => ?_, fun y hy k => ?_⟩
  · by_cases hyx : y = x
    · subst hyx
      exact hc
    · have h1 := hN.2.2.1 y hy (by omega)
      have h2 : H1[B + (y - 1000)]? = H[B + (y - 1000)]? := ho _ (by omega)
      unfold ev_cell at h1 ⊢
      split at h1
      · rename_i q hq
        obtain ⟨r, e1, e2, e3⟩ := h1
        refine ⟨r, e1, e2, (e3.kept h2).to fun k _ => ?_⟩
        unfold ev_fv
        rw [(hr y hyx k).1, (hr y hyx k).2.1]
      · rename_i q hq
        refine ⟨h1.1, ?_⟩
        rw [h2, h1.2, show σ'.2.2.2 y = σ.2.2.2 y from funext fun j => (hr y hyx j).2.2]
      · exact h1
  · rw [ht] at hy
    have hyx : y ≠ x := by omega
    rw [(hr y hyx k).1, (hr y hyx k).2.1, (hr y hyx k).2.2]
    exact hN.2.2.2 y hy k
theorem ev_upd_ne {f : Nat → Nat → Int32} {a k : Nat} {v : Int32} {b : Nat} (h : b ≠ a) (j : Nat) : ev_upd f a k v b j = f b j := by simp [ev_upd, h]
theorem ev_upd_at {f : Nat → Nat → Int32} {a k : Nat} {v : Int32} (j : Nat) : ev_upd f a k v a j = if j = k then v else f a j := by simp [ev_upd]
theorem ev_Rf_next {r a k : Nat} (h : ev_refs[r]? = some (a, k)) (b j : Nat) : ev_Rf (r + 1) b j = if b = a ∧ j = k then true else ev_Rf r b j := by
  have e : ev_refs.take (r + 1) = ev_refs.take r ++ [(a, k)] := by rw [List.take_add_one, h]; rfl
  unfold ev_Rf
  rw [e]
  by_cases hc : b = a ∧ j = k
  · rw [if_pos hc, hc.1, hc.2]
    simp
  · rw [if_neg hc]
    congr 1
    simp only [List.mem_append, List.mem_singleton, Prod.mk.injEq, hc, or_false]
/-- behind a store into an array -/
theorem ev_New.ast {σ : ev_M} (hN : ev_New V B dC dI dA σ H) {H1 : Heap} {x t n k : Nat} {v : Int32} (hx : 1000 ≤ x) (hxt : x < σ.1) (hsh : ev_sh x = some (.inr (t, n))) (hz : H1.size = H.size) (ho : ∀ q, q ≠ B + (x - 1000) → H1[q]? = H[q]?)
    (hc : H1[B + (x - 1000)]? = some ((arrV (dA t) n (fun j => .int (σ.2.2.2 x j))).setSlot k (.int v))) : ev_New V B dC dI dA (σ.1, σ.2.1, σ.2.2.1, ev_upd σ.2.2.2 x k v) H1 := by
  refine hN.put hx hxt rfl hz ho (fun y hy j => ⟨rfl, rfl, ev_upd_ne hy j⟩) ?_
  have h0 := hN.2.2.1 x hx hxt
  unfold ev_cell at h0 ⊢
  rw [hsh] at h0 ⊢
  refine ⟨h0.1, ?_⟩
  rw [hc, arrV_store]
  congr 2
  funext j
  simp only [updV, ev_upd_at]
  split <;> rfl
theorem ev_new_arr {σ : ev_M} (hN : ev_New V B dC dI dA σ H) {x t n : Nat} (hx : 1000 ≤ x) (hxt : x < σ.1) (hsh : ev_sh x = some (.inr (t, n))) : t < 3 ∧ H[B + (x - 1000)]? = some (arrV (dA t) n (fun j => .int (σ.2.2.2 x j))) := by
  have h0 := hN.2.2.1 x hx hxt
  unfold ev_cell at h0
  rw [hsh] at h0
  exact h0
theorem ev_va_S {H1 : Heap} {x k : Nat} (hS : va_S (ev_B B) s.heap H locs) (hz : H1.size = H.size) (ho : ∀ q, q ≠ B + (x - 1000) → H1[q]? = H[q]?) : va_S (ev_B B) s.heap H1 (locs ++ [⟨B + (x - 1000), k⟩]) :=
  hS.put hz ho (Nat.le_add_right _ _)
theorem ev_nar_char (x : Int32) : narrow .char (.int x) = .int (vp_nar .char x) := rfl
theorem ev_nar_bool (x : Int32) : narrow .boolean (.int x) = .int (vp_nar .boolean x) := rfl
end EVH

/-! STRINGS AND LETTERS: contracts -/
section CTR
variable {d : Nat} {I A : Nat → Nat → Int32}
theorem of_val {x : Nat} (hx : x < 110) : x < 1000 ∧ ev_of x 1280 = some (.ref (200 + x)) := ⟨by omega, by simp [ev_of, hx]⟩
theorem of_cod {x : Nat} (hx : x < 110) : x < 1000 ∧ ev_of x 1281 = some (.int 0) := ⟨by omega, by simp [ev_of, hx]⟩
theorem oa_txt (σ : ev_M) {x : Nat} (hx : x < 110) : ev_len σ (200 + x) = some (3, (tx x).length) ∧ ∀ j, ev_get σ (200 + x) j = .int ((tx x).getD j 0) := by
  have h : ev_oa σ (200 + x) = some (3, (tx x).length, fun j => .int ((tx x).getD j 0)) := by
    unfold ev_oa
    rw [if_neg (by omega), if_neg (by omega), if_neg (by omega), if_pos (by omega), show 200 + x - 200 = x by omega]
  refine ⟨?_, fun j => ?_⟩
  · unfold ev_len
    rw [if_pos (by omega), h]
  · unfold ev_get
    rw [if_pos (by omega), h]
theorem shr0 (x : Int32) : x >>> ((0 : Int32) &&& 31) = x := by
  have : ((0 : Int32) &&& 31) = 0 := by decide
  rw [this]
  exact Int32.shiftRight_zero
set_option maxRecDepth 100000 in
theorem c_length {K : Int32 → (Nat → Nat → Int32) → (Nat → Nat → Int32) → Prop} {x : Nat} (hx : x < 110) (h : K (nI (tx x).length) I A) : ev_Bi (d + 1) 183 0 [some (.ref x)] I A K := by
  refine t_J_length_0 x (200 + x) (of_val hx) ?_
  refine ev_T.step (k' := 5) (ls' := [some (.ref x)]) (st' := [.int (nI (tx x).length)]) (σ' := (1057, 55, I, A)) rfl (by simp only [ev_step, ev_r, (oa_txt (1057, 55, I, A) hx).1]; rfl) ?_
  refine ev_T.adv (k' := 6) (ls' := [some (.ref x)]) (st' := [.ref x, .int (nI (tx x).length)]) (σ' := (1057, 55, I, A)) 1 rfl ?_
  refine ev_T.calli (m' := 185) (as := [.ref x]) (r := [.int (nI (tx x).length)]) (K' := fun z I' A' => z = 0 ∧ I' = I ∧ A' = A) rfl (ev_scall0 hx rfl) rfl (t_J_coder_0 x 0 (of_cod hx) ⟨rfl, rfl, rfl, rfl⟩) ?_
  rintro z I' A' ⟨rfl, rfl, rfl⟩
  refine ev_T.adv (k' := 10) (ls' := [some (.ref x)]) (st' := [.int (nI (tx x).length >>> ((0 : Int32) &&& 31))]) (σ' := (1057, 55, I', A')) 1 rfl ?_
  rw [shr0]
  exact ev_T.reti rfl rfl h
set_option maxRecDepth 100000 in
theorem c_charAt {K : Int32 → (Nat → Nat → Int32) → (Nat → Nat → Int32) → Prop} {x i : Nat} (hx : x < 110) (hi : i < (tx x).length) (h : K ((tx x).getD i 0) I A) : ev_Bi (d + 4) 184 0 [some (.ref x), some (.int (nI i))] I A K := by
  have hl := tx_len x
  have hm := tx_mem (getD_mem hi)
  refine t_J_charAt_0 x (nI i) (200 + x) (200 + x) hx (of_val hx) (of_val hx) ?_
  refine t_J_isLatin1_0 x 0 (of_cod hx) ⟨fun _ => ⟨fun c => absurd c (by decide), fun _ => ?_⟩, fun c => absurd rfl c⟩
  refine t_J1_charAt_0 (200 + x) (nI i) ?_
  refine ev_T.step (k' := 3) (ls' := [some (.ref (200 + x)), some (.int (nI i))]) (st' := [.int (nI (tx x).length), .int (nI i)]) (σ' := (1057, 55, I, A)) rfl (by simp only [ev_step, ev_r, (oa_txt (1057, 55, I, A) hx).1]; rfl) ?_
  refine ev_T.callv (m' := 187) (as := [.int (nI i), .int (nI (tx x).length)]) (r := []) (K' := fun I' A' => I' = I ∧ A' = A) rfl rfl rfl (t_J_checkIndex_0 _ _ (t_J3_checkIndex_0 _ _ _ ⟨fun c => absurd c (nI_pos (by omega)), fun _ => ⟨fun _ => ⟨rfl, rfl⟩, fun c => absurd (nI_lt hi (by omega)) c⟩⟩)) ?_
  rintro I' A' ⟨rfl, rfl⟩
  refine ev_T.adv (k' := 8) (ls' := [some (.ref (200 + x)), some (.int (nI i))]) (st' := [.int (nI i), .ref (200 + x)]) (σ' := (1057, 55, I', A')) 2 rfl ?_
  refine ev_T.zald (v := .int ((tx x).getD i 0)) (n := (tx x).length) rfl (vp_in_nI hi (by omega)) (by rw [if_pos (by omega)]; exact (oa_txt _ hx).1) (by rw [(oa_txt _ hx).2, nI_clamp (by omega)]) ?_
  refine ev_T.adv (k' := 14) (ls' := [some (.ref (200 + x)), some (.int (nI i))]) (st' := [.int (ev_i2c ((tx x).getD i 0 &&& 255))]) (σ' := (1057, 55, I', A')) 3 rfl ?_
  rw [hm.1]
  exact ev_T.retz rfl rfl hm.2 ⟨_, _, _, rfl, rfl, hm.2, h⟩
end CTR

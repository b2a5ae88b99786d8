/-! what was checked method by method, as one -/
theorem ev_hok : ∀ (m k : Nat) (e : Instr × Nat × Value), ev_at m k = some e → ∃ (q : MethodName × ByteArray × Option FieldType) (pl : List Nat), ev_nm[m]? = some q ∧ ev_ck q.1 q.2.1 k e pl = true := by
  intro m k e h
  unfold ev_at at h
  cases hc : ev_codes[m]? with
  | none =>
    rw [List.getD_eq_getElem?_getD, hc] at h
    simp at h
  | some cs =>
    rw [List.getD_eq_getElem?_getD, hc] at h
    have hj : cs[k]? = some (some e) := by simpa [Option.join_eq_some_iff] using h
    have hlen : m < ev_nm.length := by
      have := (List.getElem?_eq_some_iff.mp hc).1
      rw [ev_clen] at this
      rw [ev_nlen]
      exact this
    obtain ⟨q, hq⟩ : ∃ q, ev_nm[m]? = some q := ⟨_, List.getElem?_eq_getElem hlen⟩
    have hz : (q, cs) ∈ ev_nm.zip ev_codes := List.mem_of_getElem? (i := m) (List.getElem?_zip_eq_some.mpr ⟨hq, hc⟩)
    obtain ⟨pl, h1⟩ := ev_kall _ hz k e hj
    exact ⟨q, pl, hq, h1⟩
theorem ev_hmok : ∀ (m : Nat) (q : MethodName × ByteArray × Option FieldType), ev_nm[m]? = some q → m + 1 < ev_nm.length → ∃ pl, ev_ckM q (ev_mt m) pl = true := by
  intro m q hq hlt
  rw [ev_nlen] at hlt
  have hl : m + 1 < ev_mts.length := by
    rw [ev_mlen]
    exact hlt
  obtain ⟨t, ht⟩ : ∃ t, ev_mts[m]? = some t := ⟨_, List.getElem?_eq_getElem (by omega)⟩
  have hz : (q, t) ∈ (ev_nm.zip ev_mts).take ev_lawNo := by
    refine List.mem_of_getElem? (i := m) ?_
    rw [List.getElem?_take, if_pos (by omega)]
    exact List.getElem?_zip_eq_some.mpr ⟨hq, ht⟩
  obtain ⟨pl, hp⟩ := ev_jall _ hz
  refine ⟨pl, ?_⟩
  have : ev_mt m = t := by
    unfold ev_mt
    rw [List.getD_eq_getElem?_getD, ht]
    rfl
  rw [this]
  exact hp

/-! THE START, tied to the pure machine -/
section EVSTART
variable {s : State} {args : Array Value} {b L : Nat} {xs : Nat → Int32}
theorem ev_noA (a : Nat) (h : a < s.heap.size) : ¬ ev_B s.heap.size a := Nat.not_le.mpr h
theorem ev_exact {t : Term} {C : String} (h : (Cond.exactly t C).before args s = true) : ∃ a, t.eval args s none [] s = some (.ref a) ∧ va_O C a (ev_B s.heap.size) s s.heap := by
  obtain ⟨a, c, cA, kA, q1, q2, q3, q4, q5, q6, -⟩ := Cond.exactly_spec (args := args) (first := s) (o := none) (s := s) (idx := []) h
  exact ⟨a, q1, cA, q3, q5, by rw [q6]; exact q2, ev_noA a (Array.getElem?_eq_some_iff.mp q3).1⟩
theorem ev_str (hs : ∀ w ∈ ev_FL, w.before args s = true) {i : Nat} (hi : i < 110) : ∃ q : Nat × Nat, (ev_sT i).eval args s none [] s = some (.ref q.1) ∧ va_O "java/lang/String" q.1 (ev_B s.heap.size) s s.heap ∧ va_OF "java/lang/String" "coder" "B" (.int 0) q.1 (ev_B s.heap.size) s s.heap ∧
    va_OF "java/lang/String" "value" "[B" (.ref q.2) q.1 (ev_B s.heap.size) s s.heap ∧ va_T .byte q.2 (ev_txs.getD i []).length (fun j => .int ((ev_txs.getD i []).getD j 0)) (ev_B s.heap.size) s s.heap := by
  have hw : ∀ w ∈ ev_sW i, w.before args s = true := fun w h => hs w (ev_sM hi w h)
  obtain ⟨a, ha, hO⟩ := ev_exact (hw (.exactly (ev_sT i) "java/lang/String") (by simp [ev_sW]))
  have hlen : (ev_txs.getD i []).length < 2 ^ 31 := by
    have h1 : ∀ l ∈ ev_txs, l.length < 2 ^ 31 := by decide +kernel
    rw [List.getD_eq_getElem?_getD]
    cases hc : ev_txs[i]? with
    | none => simp
    | some l => exact h1 l (List.mem_of_getElem? hc)
  obtain ⟨t, ht, hT⟩ := va_Tof (f := fun j => .int ((ev_txs.getD i []).getD j 0)) (A := ev_B s.heap.size) hlen (hw (.arrayOf (ev_sV i) .byte) (by simp [ev_sW])) (va_eqt (hw (.eq (.length (ev_sV i)) (.int (Int32.ofNat (ev_txs.getD i []).length))) (by simp [ev_sW])))
    (fun j hj => va_eqt (hw (.eq (.elem (ev_sV i) (.int (Int32.ofNat j))) (.int ((ev_txs.getD i []).getD j 0))) (List.mem_append_right _ (List.mem_map.mpr ⟨j, List.mem_range.mpr hj, rfl⟩)))) ev_noA
  exact ⟨(a, t), ha, hO, vk_OFof ha (va_eqt (hw (.eq (.field (ev_sT i) "java/lang/String" "coder" "B") (.int 0)) (by simp [ev_sW]))) ev_noA, vk_OFof ha ht ev_noA, hT⟩
theorem ev_enu (hs : ∀ w ∈ ev_FL, w.before args s = true) {i : Nat} (hi : i < 54) : ∃ (a : Nat) (q : Int32 × Int32 × Nat × Nat), ev_ens[i]? = some q ∧ (ev_eT i).eval args s none [] s = some (.ref a) ∧ va_O "StemRules$Ending" a (ev_B s.heap.size) s s.heap ∧ va_OF "java/lang/Enum" "ordinal" "I" (.int (Int32.ofNat i)) a (ev_B s.heap.size) s s.heap ∧
    va_OF "StemRules$Ending" "stage" "I" (.int q.1) a (ev_B s.heap.size) s s.heap ∧ va_OF "StemRules$Ending" "need" "I" (.int q.2.1) a (ev_B s.heap.size) s s.heap ∧
    (∀ v, (ev_sT q.2.2.1).eval args s none [] s = some v → va_OF "StemRules$Ending" "has" "Ljava/lang/String;" v a (ev_B s.heap.size) s s.heap) ∧ (∀ v, (ev_sT q.2.2.2).eval args s none [] s = some v → va_OF "StemRules$Ending" "becomes" "Ljava/lang/String;" v a (ev_B s.heap.size) s s.heap) := by
  have hw : ∀ w ∈ ev_eW i, w.before args s = true := fun w h => hs w (ev_eM hi w h)
  obtain ⟨q, hq⟩ : ∃ q, ev_ens[i]? = some q := ⟨_, List.getElem?_eq_getElem (by rw [show ev_ens.length = 54 from by decide +kernel]; exact hi)⟩
  unfold ev_eW at hw
  rw [hq] at hw
  dsimp only at hw
  obtain ⟨a, ha, hO⟩ := ev_exact (hw (.exactly (ev_eT i) "StemRules$Ending") (by simp))
  exact ⟨a, q, hq, ha, hO, vk_OFof ha (va_eqt (hw (.eq (.field (ev_eT i) "java/lang/Enum" "ordinal" "I") (.int (Int32.ofNat i))) (by simp))) ev_noA,
    vk_OFof ha (va_eqt (hw (.eq (.field (ev_eT i) "StemRules$Ending" "stage" "I") (.int q.1)) (by simp))) ev_noA, vk_OFof ha (va_eqt (hw (.eq (.field (ev_eT i) "StemRules$Ending" "need" "I") (.int q.2.1)) (by simp))) ev_noA,
    fun v hv => vk_OFof ha (va_eqv (hw (.eq (.field (ev_eT i) "StemRules$Ending" "has" "Ljava/lang/String;") (ev_sT q.2.2.1)) (by simp)) hv) ev_noA, fun v hv => vk_OFof ha (va_eqv (hw (.eq (.field (ev_eT i) "StemRules$Ending" "becomes" "Ljava/lang/String;") (ev_sT q.2.2.2)) (by simp)) hv) ev_noA⟩
theorem ev_OF_inj {o n d : String} {v w : Value} {a : Nat} {A : Nat → Prop} {H : Heap} (h1 : va_OF o n d v a A s H) (h2 : va_OF o n d w a A s H) : v = w := by
  obtain ⟨cf, k, i, f, cell, e1, e2, e3, e4, e5, e6⟩ := h1
  obtain ⟨cf', k', i', f', cell', g1, g2, g3, g4, g5, g6⟩ := h2
  cases e1.symm.trans g1
  cases e3.symm.trans g3
  exact Option.some.inj (e5.symm.trans g5)
theorem ev_ens_ok : ∀ q ∈ ev_ens, q.2.2.1 < 110 ∧ q.2.2.2 < 110 := by decide +kernel
/-- the real values of the pure references -/
def ev_Vof (B : Nat) (aS aV aE : Nat → Nat) (aF aG b : Nat) (sio : Value) (x : Nat) : Value :=
  if x < 110 then .ref (aS x) else if 200 ≤ x ∧ x < 310 then .ref (aV (x - 200)) else if 400 ≤ x ∧ x < 454 then .ref (aE (x - 400)) else if x = 500 then .ref aF else if x = 501 then .ref aG else if x = 502 then .ref b else if x = 503 then sio else if 1000 ≤ x then .ref (B + (x - 1000)) else .null
set_option maxRecDepth 100000 in
set_option maxHeartbeats 4000000 in
theorem ev_start (hts : ∀ w ∈ lw_tbl, w.before #[Value.ref b] s = true) (hX : va_X b L xs s s.heap) (hbl : b < s.heap.size) (hL : L < 2 ^ 31) (hgv : (Jvm.Cond.and given_1 narrow_1).before #[Value.ref b] s = true) :
    ∃ (V : Nat → Value) (dC : Nat → ClassId) (dI : Nat → Nat → Nat) (dA : Nat → ClassId), ev_V V s.heap.size ∧ V 502 = .ref b ∧ ev_TB s ∧ va_K (dC, dI) vwCl (ev_tys dA) s ∧ ev_Old V s.heap.size s s.heap ∧
      ∀ σ : ev_M, σ.2.2.1 502 0 = Int32.ofNat L → (∀ j, j < L → σ.2.2.2 502 j = xs j) → ev_OA V s.heap.size σ s s.heap := by
  have hs : ∀ w ∈ ev_FL, w.before #[Value.ref b] s = true := flat_of_before _ hgv
  -- strings
  have h0 : ∀ i : Nat, ∃ q : Nat × Nat, i < 110 → (ev_sT i).eval #[Value.ref b] s none [] s = some (.ref q.1) ∧ va_O "java/lang/String" q.1 (ev_B s.heap.size) s s.heap ∧ va_OF "java/lang/String" "coder" "B" (.int 0) q.1 (ev_B s.heap.size) s s.heap ∧
      va_OF "java/lang/String" "value" "[B" (.ref q.2) q.1 (ev_B s.heap.size) s s.heap ∧ va_T .byte q.2 (ev_txs.getD i []).length (fun j => .int ((ev_txs.getD i []).getD j 0)) (ev_B s.heap.size) s s.heap := by
    intro i
    by_cases hi : i < 110
    · obtain ⟨q, h⟩ := ev_str hs hi
      exact ⟨q, fun _ => h⟩
    · exact ⟨(0, 0), fun h => absurd h hi⟩
  obtain ⟨ad, had⟩ := Classical.axiomOfChoice h0
  -- the enum
  have h1 : ∀ i : Nat, ∃ (a : Nat), i < 54 → ∃ q : Int32 × Int32 × Nat × Nat, ev_ens[i]? = some q ∧ (ev_eT i).eval #[Value.ref b] s none [] s = some (.ref a) ∧ va_O "StemRules$Ending" a (ev_B s.heap.size) s s.heap ∧ va_OF "java/lang/Enum" "ordinal" "I" (.int (Int32.ofNat i)) a (ev_B s.heap.size) s s.heap ∧
      va_OF "StemRules$Ending" "stage" "I" (.int q.1) a (ev_B s.heap.size) s s.heap ∧ va_OF "StemRules$Ending" "need" "I" (.int q.2.1) a (ev_B s.heap.size) s s.heap ∧
      (∀ v, (ev_sT q.2.2.1).eval #[Value.ref b] s none [] s = some v → va_OF "StemRules$Ending" "has" "Ljava/lang/String;" v a (ev_B s.heap.size) s s.heap) ∧ (∀ v, (ev_sT q.2.2.2).eval #[Value.ref b] s none [] s = some v → va_OF "StemRules$Ending" "becomes" "Ljava/lang/String;" v a (ev_B s.heap.size) s s.heap) := by
    intro i
    by_cases hi : i < 54
    · obtain ⟨a, q, h⟩ := ev_enu hs hi
      exact ⟨a, fun _ => ⟨q, h⟩⟩
    · exact ⟨0, fun h => absurd h hi⟩
  obtain ⟨aE, haE⟩ := Classical.axiomOfChoice h1
  -- the two static arrays, and the rest
  have hw : ∀ w ∈ ev_fW ++ ev_gW ++ ev_cW, w.before #[Value.ref b] s = true := fun w h => hs w (ev_fm_mem _ _ ev_fP w h)
  have hwf : ∀ w ∈ ev_fW, w.before #[Value.ref b] s = true := fun w h => hw w (List.mem_append_left _ (List.mem_append_left _ h))
  have hwg : ∀ w ∈ ev_gW, w.before #[Value.ref b] s = true := fun w h => hw w (List.mem_append_left _ (List.mem_append_right _ h))
  have hwc : ∀ w ∈ ev_cW, w.before #[Value.ref b] s = true := fun w h => hw w (List.mem_append_right _ h)
  obtain ⟨aF, hF, hFT⟩ := va_Tof (tm := ev_fT) (ty := .char) (N := 26) (f := fun j => .int (ev_figs.getD j 0)) (A := ev_B s.heap.size) (by decide) (hwf _ (by simp [ev_fW])) (va_eqt (hwf (.eq (.length ev_fT) (.int 26)) (by simp [ev_fW])))
    (fun j hj => va_eqt (hwf (.eq (.elem ev_fT (.int (Int32.ofNat j))) (.int (ev_figs.getD j 0))) (List.mem_append_right _ (List.mem_map.mpr ⟨j, List.mem_range.mpr hj, rfl⟩)))) ev_noA
  obtain ⟨aG, hG, hGT⟩ := va_Tof (tm := ev_gT) (ty := .object "StemRules$Ending") (N := 54) (f := fun j => .ref (aE j)) (A := ev_B s.heap.size) (by decide) (hwg _ (by simp [ev_gW])) (va_eqt (hwg (.eq (.length ev_gT) (.int 54)) (by simp [ev_gW])))
    (fun j hj => va_eqv (hwg (.eq (.elem ev_gT (.int (Int32.ofNat j))) (ev_eT j)) (List.mem_append_right _ (List.mem_map.mpr ⟨j, List.mem_range.mpr hj, rfl⟩))) (by obtain ⟨q, -, h, -⟩ := haE j hj; exact h)) ev_noA
  obtain ⟨sio, hsio, hsioZ⟩ : ∃ v : Value, (v = .null ∨ ∃ a, v = .ref a) ∧ va_Z "jdk/internal/util/Preconditions" "SIOOBE_FORMATTER" "Ljava/util/function/BiFunction;" v (ev_B s.heap.size) s s.heap := by
    rcases va_Zqof (hts _ ev_lySIOOBE) (hts _ ev_inP) (hwc _ (by simp [ev_cW])) ev_noA with h | ⟨t, h⟩
    · exact ⟨.null, Or.inl rfl, h⟩
    · exact ⟨.ref t, Or.inr ⟨t, rfl⟩, h⟩
  -- the classes
  obtain ⟨c0, i0, k0⟩ := u_known (C := RX0) (T := TX0) (N := 6) hts (fun w h => ((ev_cl (k := 0) rfl).1 w h).1) (hts _ ev_it0)
  obtain ⟨c1, i1, k1⟩ := u_known (C := RX1) (T := TX1) (N := 6) hts (fun w h => ((ev_cl (k := 1) rfl).1 w h).1) (hts _ ev_it1)
  obtain ⟨c2, i2, k2⟩ := u_known (C := RX3) (T := TX3) (N := 6) hts (fun w h => ((ev_cl (k := 2) rfl).1 w h).1) (hts _ ev_it2)
  obtain ⟨c3, i3, k3⟩ := u_known (C := RX5) (T := TX5) (N := 2) hts (fun w h => ((ev_cl (k := 3) rfl).1 w h).1) (hts _ ev_it3)
  obtain ⟨c4, i4, k4⟩ := u_known (C := RX6) (T := TX6) (N := 4) hts (fun w h => ((ev_cl (k := 4) rfl).1 w h).1) (hts _ ev_it4)
  obtain ⟨c5, i5, k5⟩ := u_known (C := RX8) (T := TX8) (N := 2) hts (fun w h => ((ev_cl (k := 5) rfl).1 w h).1) (hts _ ev_it5)
  obtain ⟨c6, i6, k6⟩ := u_known (C := RX9) (T := TX9) (N := 6) hts (fun w h => ((ev_cl (k := 6) rfl).1 w h).1) (hts _ ev_it6)
  obtain ⟨c7, i7, k7⟩ := u_known (C := RX10) (T := TX10) (N := 5) hts (fun w h => ((ev_cl (k := 7) rfl).1 w h).1) (hts _ ev_it7)
  obtain ⟨c8, i8, k8⟩ := u_known (C := RX11) (T := TX11) (N := 9) hts (fun w h => ((ev_cl (k := 8) rfl).1 w h).1) (hts _ ev_it8)
  obtain ⟨c9, i9, k9⟩ := u_known (C := RX12) (T := TX12) (N := 33) hts (fun w h => ((ev_cl (k := 9) rfl).1 w h).1) (hts _ ev_it9)
  have harr : ∀ ty, Jvm.Cond.arrayClass ty ∈ lw_tbl → ∃ cA : ClassId, ArrOfT s cA ty ∧ s.vm.findClass ("[" ++ ty.toString) = some cA := by
    intro ty h
    obtain ⟨cA, kA, comp, g1, g2, g3⟩ := Cond.arrayClass_spec (hts _ h)
    exact ⟨cA, fun n z => ⟨fun k h => (by cases h), kA, g2, comp, g3⟩, g1⟩
  obtain ⟨a0, ha0, hb0⟩ := harr _ ev_ar_int
  obtain ⟨a1, ha1, hb1⟩ := harr _ ev_ar_char
  obtain ⟨a2, ha2, hb2⟩ := harr _ ev_ar_boolean
  refine ⟨ev_Vof s.heap.size (fun i => (ad i).1) (fun i => (ad i).2) aE aF aG b sio, fun k => ([c0, c1, c2, c3, c4, c5, c6, c7, c8, c9] : List Nat).getD k 0, fun k => ([i0, i1, i2, i3, i4, i5, i6, i7, i8, i9] : List (Nat → Nat)).getD k (fun _ => 0), fun k => ([a0, a1, a2] : List Nat).getD k 0, ⟨?_, ?_, ?_, ?_⟩, by simp [ev_Vof], ?_, ⟨?_, ?_⟩, ⟨?_, ?_, ?_, ?_⟩, ?_⟩
  · intro x
    unfold ev_Vof
    repeat' split
    all_goals first | exact Or.inr ⟨_, rfl⟩ | exact hsio | exact Or.inl rfl
  · intro x hx
    unfold ev_Vof
    rw [if_neg (by omega), if_neg (by omega), if_neg (by omega), if_neg (by omega), if_neg (by omega), if_neg (by omega), if_neg (by omega), if_pos hx]
  · intro x hx hy
    unfold ev_Vof
    rw [if_neg (by omega), if_neg (by omega), if_pos ⟨hx, hy⟩]
    exact ⟨_, rfl⟩
  · intro x y hx hx' hy hy' h
    unfold ev_Vof at h
    rw [if_neg (by omega), if_neg (by omega), if_pos ⟨hx, hx'⟩, if_neg (by omega), if_neg (by omega), if_pos ⟨hy, hy'⟩] at h
    injection h with h
    obtain ⟨q, -, -, -, h2, -⟩ := haE (x - 400) (by omega)
    obtain ⟨q', -, -, -, h3, -⟩ := haE (y - 400) (by omega)
    rw [h] at h2
    have h4 := ev_OF_inj h2 h3
    injection h4 with h4
    have h5 := congrArg Int32.toNatClampNeg h4
    rw [Int32.toNatClampNeg_ofNat_of_lt (by omega), Int32.toNatClampNeg_ofNat_of_lt (by omega)] at h5
    omega
  · exact fun w hw hg A => ev_gw_warm (A := #[Value.ref b]) (State.WarmedH.refl s) hg (hts w hw) A
  · intro c q hq
    match c, hq with
    | 0, hq => cases hq; exact k0
    | 1, hq => cases hq; exact k1
    | 2, hq => cases hq; exact k2
    | 3, hq => cases hq; exact k3
    | 4, hq => cases hq; exact k4
    | 5, hq => cases hq; exact k5
    | 6, hq => cases hq; exact k6
    | 7, hq => cases hq; exact k7
    | 8, hq => cases hq; exact k8
    | 9, hq => cases hq; exact k9
    | c + 10, hq => simp [vwCl] at hq
  · intro k q hq
    match k, hq with
    | 0, hq => cases hq; exact ⟨ha0, hb0⟩
    | 1, hq => cases hq; exact ⟨ha1, hb1⟩
    | 2, hq => cases hq; exact ⟨ha2, hb2⟩
    | k + 3, hq => simp [ev_tys] at hq
  · intro q hq
    have hall : q ∈ ([("StemRules$Keys", "FIGURES", "[C", .ref 500), ("StemRules$Ending", "ED", "LStemRules$Ending;", .ref 405), ("StemRules$Ending", "ING", "LStemRules$Ending;", .ref 406), ("StemRules$Porter", "ENDINGS", "[LStemRules$Ending;", .ref 501), ("java/lang/String", "COMPACT_STRINGS", "Z", .int 1), ("jdk/internal/util/Preconditions", "SIOOBE_FORMATTER", "Ljava/util/function/BiFunction;", .ref 503)] : List (String × String × String × Value)) := hq
    simp only [List.mem_cons, List.not_mem_nil, or_false] at hall
    rcases hall with rfl | rfl | rfl | rfl | rfl | rfl
    · exact va_Zref (hts _ ev_lyFIGURES) (hts _ ev_inK) hF ev_noA
    · obtain ⟨q, -, h, -⟩ := haE 5 (by omega)
      exact va_Zref (hts _ ev_lyED) (hts _ ev_inE) h ev_noA
    · obtain ⟨q, -, h, -⟩ := haE 6 (by omega)
      exact va_Zref (hts _ ev_lyING) (hts _ ev_inE) h ev_noA
    · exact va_Zref (hts _ ev_lyENDINGS) (hts _ ev_inO) hG ev_noA
    · exact va_Zof (hts _ ev_lyCOMPACT) (hts _ ev_inS) (va_eqi (hwc _ (by simp [ev_cW]))) ev_noA
    · exact hsioZ
  · intro x n v hv
    unfold ev_of at hv
    split at hv
    · rename_i hx
      obtain ⟨g1, g2, g3, g4, g5⟩ := had x hx
      refine ⟨(ad x).1, by unfold ev_Vof; rw [if_pos hx], ?_⟩
      split at hv
      · rename_i hn
        cases hv
        subst hn
        have e1 : ev_av (ev_Vof s.heap.size (fun i => (ad i).1) (fun i => (ad i).2) aE aF aG b sio) (.ref (200 + x)) = .ref (ad x).2 := by
          rw [ev_av_ref]
          unfold ev_Vof
          rw [if_neg (by omega), if_pos (by omega), show 200 + x - 200 = x by omega]
        rw [e1]
        exact g4
      · split at hv
        · rename_i hn
          cases hv
          subst hn
          exact g3
        · cases hv
    · split at hv
      · rename_i hx
        obtain ⟨q, hq, g1, g2, g3, g4, g5, g6, g7⟩ := haE (x - 400) (by omega)
        rw [hq] at hv
        dsimp only at hv
        refine ⟨aE (x - 400), by unfold ev_Vof; rw [if_neg (by omega), if_neg (by omega), if_pos hx], ?_⟩
        have hok := ev_ens_ok q (List.mem_of_getElem? hq)
        have sref : ∀ i, i < 110 → ev_av (ev_Vof s.heap.size (fun i => (ad i).1) (fun i => (ad i).2) aE aF aG b sio) (.ref i) = .ref (ad i).1 := by
          intro i hi
          rw [ev_av_ref]
          unfold ev_Vof
          rw [if_pos hi]
        split at hv
        · rename_i hn
          cases hv
          subst hn
          exact g4
        · split at hv
          · rename_i hn
            cases hv
            subst hn
            exact g5
          · split at hv
            · rename_i hn
              cases hv
              subst hn
              rw [sref _ hok.1]
              exact g6 _ (had _ hok.1).1
            · split at hv
              · rename_i hn
                cases hv
                subst hn
                rw [sref _ hok.2]
                exact g7 _ (had _ hok.2).1
              · cases hv
      · cases hv
  · intro x hx
    exact ⟨(ad x).1, by unfold ev_Vof; rw [if_pos hx], (had x hx).2.1⟩
  · intro x q hq
    have hx : x < 110 := by
      have := (List.getElem?_eq_some_iff.mp hq).1
      rw [show ev_strs.length = 110 from by decide +kernel] at this
      exact this
    refine ⟨(ad x).1, by unfold ev_Vof; rw [if_pos hx], ?_⟩
    have h2 := (had x hx).1
    unfold ev_sT at h2
    rw [hq] at h2
    refine vk_R.of (A := #[Value.ref b]) ?_ ?_
    · exact hts _ (ev_strWords q (List.mem_of_getElem? hq))
    · exact h2
  · intro σ hσ1 hσ2 x q hq
    unfold ev_oa at hq
    split at hq
    · rename_i hx
      subst hx
      cases hq
      refine ⟨b, by simp [ev_Vof], ?_⟩
      obtain ⟨scr, g1, g2, g3, g4, g5⟩ := hX
      have hLn : (σ.2.2.1 502 0).toNatClampNeg = L := by rw [hσ1, Int32.toNatClampNeg_ofNat_of_lt hL]
      refine ⟨scr, g1, g2, g3, ?_, ?_, ?_, Nat.not_le.mpr hbl⟩
      · dsimp only
        rw [hLn, g4]
        exact Nat.le_refl _
      · dsimp only
        rw [hLn, g4]
      · intro j hj
        dsimp only at hj ⊢
        rw [hLn] at hj
        rw [g5 j hj]
        show _ = some (Value.int _)
        rw [hσ2 j hj]
    · split at hq
      · rename_i hx
        subst hx
        cases hq
        exact ⟨aF, by simp [ev_Vof], hFT⟩
      · split at hq
        · rename_i hx
          subst hx
          cases hq
          refine ⟨aG, by simp [ev_Vof], ?_⟩
          obtain ⟨cell, g1, g2, g3, g4, g5, g6, g7⟩ := hGT
          refine ⟨cell, g1, g2, g3, g4, g5, fun j hj => ?_, g7⟩
          rw [g6 j hj]
          dsimp only
          rw [ev_av_ref]
          unfold ev_Vof
          have hj : j < 54 := hj
          rw [if_neg (by omega), if_neg (by omega), if_pos (by omega), show 400 + j - 400 = j by omega]
        · split at hq
          · rename_i hx
            cases hq
            refine ⟨(ad (x - 200)).2, by unfold ev_Vof; rw [if_neg (by omega), if_pos hx], ?_⟩
            have g := (had (x - 200) (by omega)).2.2.2.2
            obtain ⟨cell, g1, g2, g3, g4, g5, g6, g7⟩ := g
            exact ⟨cell, g1, g2, g3, g4, g5, fun j hj => by rw [g6 j hj]; dsimp only; rw [ev_av_int], g7⟩
          · cases hq
end EVSTART

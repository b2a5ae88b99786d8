/-! WHAT THE PURE MACHINE SAYS OF THE REAL ONE: values, locals, cells -/
def ev_av (V : Nat → Value) (v : Value) : Value := match v with
  | .ref x => V x
  | .int x => .int x
  | .long x => .long x
  | .null => .null
  | .float x => .float x
  | .double x => .double x
  | .retAddr x => .retAddr x
def ev_fty (t : Nat) : FieldType := match t with
  | 0 => .int
  | 1 => .char
  | 2 => .boolean
  | 3 => .byte
  | _ => .object "StemRules$Ending"
def ev_fn (n : Nat) : String × String × String :=
  if n = 1280 then ("java/lang/String", "value", "[B") else if n = 1281 then ("java/lang/String", "coder", "B")
  else if n = 1344 then ("StemRules$Ending", "stage", "I") else if n = 1345 then ("StemRules$Ending", "need", "I")
  else if n = 1346 then ("StemRules$Ending", "has", "Ljava/lang/String;") else ("StemRules$Ending", "becomes", "Ljava/lang/String;")
abbrev ev_B (B : Nat) : Nat → Prop := fun q => B ≤ q
/-- a word that holds on as the tables warm -/
def ev_gw (w : Jvm.Cond) : Bool := match w with
  | .fieldLinkNest _ _ _ _ _ _ => true
  | .methodLinkNest _ _ _ _ => true
  | w => goodWord w
def ev_TB (U : State) : Prop := ∀ w ∈ lw_tbl, ev_gw w = true → ∀ A : Array Value, w.before A U = true
theorem ev_gw_warm {s U : State} {w : Jvm.Cond} {A : Array Value} (hW : s.WarmedH U.vm) (hg : ev_gw w = true) (h : w.before A s = true) (A' : Array Value) : w.before A' U = true := by
  cases w with
  | fieldLinkNest a i b n d h0 => exact va_Nw.use rfl (va_Nw.warmF hW (va_Nw.of rfl h))
  | methodLinkNest a i x h0 => exact va_Nw.use rfl (va_Nw.warmM hW (va_Nw.of rfl h))
  | _ => exact word_at hW (good_of_word hg) h
theorem ev_TB.warm {s U : State} (hW : s.WarmedH U.vm) (h : ev_TB s) : ev_TB U := fun w hw hg A => ev_gw_warm (A := #[]) hW hg (h w hw hg #[]) A
def ev_tys (dA : Nat → ClassId) : List (ClassId × FieldType) := [(dA 0, .int), (dA 1, .char), (dA 2, .boolean)]
def ev_Old (V : Nat → Value) (B : Nat) (U : State) (H : Heap) : Prop :=
  (∀ q ∈ ev_sts, va_Z q.1 q.2.1 q.2.2.1 (ev_av V q.2.2.2) (ev_B B) U H) ∧
  (∀ (x n : Nat) (v : Value), ev_of x n = some v → ∃ a, V x = .ref a ∧ va_OF (ev_fn n).1 (ev_fn n).2.1 (ev_fn n).2.2 (ev_av V v) a (ev_B B) U H) ∧
  (∀ x, x < 110 → ∃ a, V x = .ref a ∧ va_O "java/lang/String" a (ev_B B) U H) ∧
  (∀ (x : Nat) (q : String × Nat × String), ev_strs[x]? = some q → ∃ a, V x = .ref a ∧ vk_R q.1 q.2.1 q.2.2 a U)
def ev_OA (V : Nat → Value) (B : Nat) (σ : ev_M) (U : State) (H : Heap) : Prop :=
  ∀ (x : Nat) (q : Nat × Nat × (Nat → Value)), ev_oa σ x = some q → ∃ a, V x = .ref a ∧ va_T (ev_fty q.1) a q.2.1 (fun j => ev_av V (q.2.2 j)) (ev_B B) U H
def ev_fv (V : Nat → Value) (σ : ev_M) (x k : Nat) (o : Option Nat) : Value := match o with
  | none => .int (σ.2.2.1 x k)
  | some b => if ev_Rf σ.2.1 x k = true then V b else .null
def ev_cell (V : Nat → Value) (B : Nat) (dC : Nat → ClassId) (dI : Nat → Nat → Nat) (dA : Nat → ClassId) (σ : ev_M) (H : Heap) (x : Nat) : Prop := match ev_sh x with
  | some (.inl q) => ∃ r : vw_C, vwCl[q.1]? = some r ∧ q.2.length = r.2.2 ∧ t_OB (B + (x - 1000)) (dC q.1) r.2.2 (dI q.1) H (fun k => ev_fv V σ x k (q.2.getD k none))
  | some (.inr q) => q.1 < 3 ∧ H[B + (x - 1000)]? = some (arrV (dA q.1) q.2 (fun j => .int (σ.2.2.2 x j)))
  | none => False
def ev_New (V : Nat → Value) (B : Nat) (dC : Nat → ClassId) (dI : Nat → Nat → Nat) (dA : Nat → ClassId) (σ : ev_M) (H : Heap) : Prop :=
  1000 ≤ σ.1 ∧ H.size = B + (σ.1 - 1000) ∧ (∀ x, 1000 ≤ x → x < σ.1 → ev_cell V B dC dI dA σ H x) ∧ ∀ x, σ.1 ≤ x → ∀ k, ev_Rf σ.2.1 x k = false ∧ σ.2.2.1 x k = 0 ∧ σ.2.2.2 x k = 0
def ev_V (V : Nat → Value) (B : Nat) : Prop :=
  (∀ x, V x = .null ∨ ∃ a, V x = .ref a) ∧ (∀ x, 1000 ≤ x → V x = .ref (B + (x - 1000))) ∧ (∀ x, 400 ≤ x → x < 454 → ∃ a, V x = .ref a) ∧
  ∀ x y, 400 ≤ x → x < 454 → 400 ≤ y → y < 454 → V x = V y → x = y
theorem ev_av_int (V : Nat → Value) (x : Int32) : ev_av V (.int x) = .int x := rfl
theorem ev_av_long (V : Nat → Value) (x : Int64) : ev_av V (.long x) = .long x := rfl
theorem ev_av_null (V : Nat → Value) : ev_av V .null = .null := rfl
theorem ev_av_ref (V : Nat → Value) (x : Nat) : ev_av V (.ref x) = V x := rfl
theorem ev_av_cat {V : Nat → Value} {B : Nat} (hV : ev_V V B) (v : Value) : (ev_av V v).category = v.category := by
  cases v with
  | ref x =>
    rcases hV.1 x with h | ⟨a, h⟩ <;> simp [ev_av, h, Value.category]
  | _ => rfl
theorem ev_cat_map {V : Nat → Value} {B : Nat} (hV : ev_V V B) (st : List Value) : ((st.map (ev_av V)).map fun v => v.category).sum = ev_cat st := by
  unfold ev_cat
  rw [List.map_map]
  congr 1
  apply List.map_congr_left
  intro v _
  exact ev_av_cat hV v
def ev_pairs (V : Nat → Value) (ls : List (Option Value)) : List (Nat × Value) := (List.range ls.length).filterMap fun j => (ls[j]?.join).map fun v => (j, ev_av V v)
theorem ev_pairs_mem {V : Nat → Value} {ls : List (Option Value)} {j : Nat} {w : Value} : (j, w) ∈ ev_pairs V ls ↔ ∃ v, ls[j]? = some (some v) ∧ w = ev_av V v := by
  unfold ev_pairs
  rw [List.mem_filterMap]
  constructor
  · rintro ⟨i, -, h⟩
    cases hi : ls[i]? with
    | none => rw [hi] at h; cases h
    | some o =>
      cases o with
      | none => rw [hi] at h; cases h
      | some v =>
        rw [hi] at h
        cases h
        exact ⟨v, hi, rfl⟩
  · rintro ⟨v, h1, rfl⟩
    refine ⟨j, List.mem_range.mpr (List.getElem?_eq_some_iff.mp h1).1, ?_⟩
    rw [h1]
    rfl
def ev_ls (V : Nat → Value) (n : Nat) (ls : List (Option Value)) (lsR : Array Slot) : Prop := ls.length = n ∧ lv_has lsR n (ev_pairs V ls)
theorem ev_ls.at {V : Nat → Value} {n : Nat} {ls : List (Option Value)} {lsR : Array Slot} (h : ev_ls V n ls lsR) {i : Nat} {v : Value} (hi : ls[i]? = some (some v)) : lsR[i]? = some (.val (ev_av V v)) :=
  h.2.2.2 (i, ev_av V v) (ev_pairs_mem.mpr ⟨v, hi, rfl⟩)
theorem ev_set_some {ls ls' : List (Option Value)} {i : Nat} {v : Value} (h : ev_set ls i v = some ls') : i < ls.length ∧ (i = 0 ∨ ev_two ls[i - 1]? = false) ∧ ls' = ls.set i (some v) := by
  unfold ev_set at h
  split at h
  · rename_i h1
    cases h
    exact ⟨h1.1, h1.2, rfl⟩
  · cases h
theorem ev_setL_some {ls ls' : List (Option Value)} {i : Nat} {v : Int64} (h : ev_setL ls i v = some ls') : i + 1 < ls.length ∧ (i = 0 ∨ ev_two ls[i - 1]? = false) ∧ ls' = (ls.set i (some (.long v))).set (i + 1) none := by
  unfold ev_setL at h
  split at h
  · rename_i h1
    cases h
    exact ⟨h1.1, h1.2, rfl⟩
  · cases h
theorem ev_two_of {ls : List (Option Value)} {j : Nat} {v : Value} (hj : ls[j]? = some (some v)) (hc : v.category = 2) : ev_two ls[j]? = true := by
  rw [hj]
  cases v <;> simp [Value.category] at hc <;> rfl
theorem ev_ls.set {V : Nat → Value} {B n : Nat} (hV : ev_V V B) {ls ls' : List (Option Value)} {lsR' : Array Slot} {i : Nat} {v w : Value} (hlen : ls.length = n) (hs : ev_set ls i v = some ls') (hw : w = ev_av V v)
    (h : lv_has lsR' n ((i, w) :: (ev_pairs V ls).filter (fun q => !(q.1 == i) && !(q.1 + 1 == i && q.2.category == 2)))) : ev_ls V n ls' lsR' := by
  obtain ⟨h1, h2, rfl⟩ := ev_set_some hs
  subst hw
  refine ⟨by simp [hlen], h.1, h.2.1, ?_⟩
  rintro ⟨j, w⟩ hq
  obtain ⟨v', hj, rfl⟩ := ev_pairs_mem.mp hq
  by_cases hji : j = i
  · subst hji
    rw [List.getElem?_set_self h1] at hj
    cases hj
    exact h.2.2 _ List.mem_cons_self
  · rw [List.getElem?_set_ne (Ne.symm hji)] at hj
    refine h.2.2 (j, ev_av V v') (List.mem_cons_of_mem _ (List.mem_filter.mpr ⟨ev_pairs_mem.mpr ⟨v', hj, rfl⟩, ?_⟩))
    by_cases hc : j + 1 = i ∧ v'.category = 2
    · exfalso
      have hj' : i - 1 = j := by omega
      rcases h2 with h2 | h2
      · omega
      · rw [hj', ev_two_of hj hc.2] at h2
        cases h2
    · have e1 : (ev_av V v').category = v'.category := ev_av_cat hV v'
      simp only [e1]
      simp [hji]
      omega
theorem ev_ls.setL {V : Nat → Value} {B n : Nat} (hV : ev_V V B) {ls ls' : List (Option Value)} {lsR' : Array Slot} {i : Nat} {v : Int64} (hlen : ls.length = n) (hs : ev_setL ls i v = some ls')
    (h : lv_has lsR' n ((i, .long v) :: (ev_pairs V ls).filter (fun q => !(q.1 == i) && (!(q.1 == i + 1) && !(q.1 + 1 == i && q.2.category == 2))))) : ev_ls V n ls' lsR' := by
  obtain ⟨h1, h2, rfl⟩ := ev_setL_some hs
  refine ⟨by simp [hlen], h.1, h.2.1, ?_⟩
  rintro ⟨j, w⟩ hq
  obtain ⟨v', hj, rfl⟩ := ev_pairs_mem.mp hq
  by_cases hji1 : j = i + 1
  · subst hji1
    rw [List.getElem?_set_self (by simpa using h1)] at hj
    cases hj
  · rw [List.getElem?_set_ne (Ne.symm hji1)] at hj
    by_cases hji : j = i
    · subst hji
      rw [List.getElem?_set_self (by omega)] at hj
      cases hj
      exact h.2.2 _ List.mem_cons_self
    · rw [List.getElem?_set_ne (Ne.symm hji)] at hj
      refine h.2.2 (j, ev_av V v') (List.mem_cons_of_mem _ (List.mem_filter.mpr ⟨ev_pairs_mem.mpr ⟨v', hj, rfl⟩, ?_⟩))
      by_cases hc : j + 1 = i ∧ v'.category = 2
      · exfalso
        have hj' : i - 1 = j := by omega
        rcases h2 with h2 | h2
        · omega
        · rw [hj', ev_two_of hj hc.2] at h2
          cases h2
      · have e1 : (ev_av V v').category = v'.category := ev_av_cat hV v'
        simp only [e1]
        simp [hji, hji1]
        omega
theorem ev_ent_args (V : Nat → Value) {B : Nat} (hV : ev_V V B) : ∀ (as : List Value) (i j : Nat) (v : Value), (∀ w ∈ as, ∀ x, w ≠ .double x) → (ev_ent as)[j]? = some (some v) → (i + j, ev_av V v) ∈ lv_args i (as.map (ev_av V))
  | [], i, j, v, _, h => by simp [ev_ent] at h
  | a :: as, i, j, v, hd, h => by
    have hd' : ∀ w ∈ as, ∀ x, w ≠ .double x := fun w hw => hd w (List.mem_cons_of_mem _ hw)
    have one : ∀ (b : Value), b.category = 1 → ev_ent (b :: as) = some b :: ev_ent as → (ev_ent (b :: as))[j]? = some (some v) → (i + j, ev_av V v) ∈ lv_args i ((b :: as).map (ev_av V)) := by
      intro b hb he h
      rw [he] at h
      simp only [List.map_cons, lv_args, ev_av_cat hV, hb]
      cases j with
      | zero =>
        simp only [List.getElem?_cons_zero, Option.some.injEq] at h
        subst h
        exact List.mem_cons_self
      | succ j =>
        rw [List.getElem?_cons_succ] at h
        have := ev_ent_args V hV as (i + 1) j v hd' h
        rw [show i + (j + 1) = i + 1 + j by omega]
        exact List.mem_cons_of_mem _ this
    cases a with
    | long x =>
      simp only [ev_ent] at h
      simp only [List.map_cons, lv_args]
      cases j with
      | zero =>
        simp only [List.getElem?_cons_zero, Option.some.injEq] at h
        subst h
        exact List.mem_cons_self
      | succ j =>
        rw [List.getElem?_cons_succ] at h
        cases j with
        | zero => simp at h
        | succ j =>
          rw [List.getElem?_cons_succ] at h
          have := ev_ent_args V hV as (i + 2) j v hd' h
          rw [show i + (j + 1 + 1) = i + 2 + j by omega]
          exact List.mem_cons_of_mem _ this
    | double x => exact absurd rfl (hd _ List.mem_cons_self x)
    | int x => exact one _ rfl rfl h
    | float x => exact one _ rfl rfl h
    | null => exact one _ rfl rfl h
    | ref x => exact one _ rfl rfl h
    | retAddr x => exact one _ rfl rfl h
theorem ev_sl_len (v : Value) (vs : List Value) : (lg_sl (v :: vs)).length = v.category + (lg_sl vs).length := by
  unfold lg_sl
  rw [List.flatMap_cons, List.length_append]
  rcases lv_cat v with h | h <;> simp [h]
theorem ev_ent_len (V : Nat → Value) {B : Nat} (hV : ev_V V B) : ∀ (as : List Value), (∀ w ∈ as, ∀ x, w ≠ .double x) → (ev_ent as).length = (lg_sl (as.map (ev_av V))).length
  | [], _ => rfl
  | a :: as, hd => by
    have ih := ev_ent_len V hV as (fun w hw => hd w (List.mem_cons_of_mem _ hw))
    rw [List.map_cons, ev_sl_len, ev_av_cat hV a, ← ih]
    cases a with
    | double x => exact absurd rfl (hd _ List.mem_cons_self x)
    | long x => simp [ev_ent, Value.category]; omega
    | int x => simp [ev_ent, Value.category]; omega
    | float x => simp [ev_ent, Value.category]; omega
    | null => simp [ev_ent, Value.category]; omega
    | ref x => simp [ev_ent, Value.category]; omega
    | retAddr x => simp [ev_ent, Value.category]; omega

theorem ev_Old.moved {V : Nat → Value} {B : Nat} {s U : State} {H H1 : Heap} (hW : s.WarmedH U.vm) (hq : ∀ q : Nat, q < H.size → ¬ ev_B B q → H1[q]? = H[q]?) (h : ev_Old V B s H) : ev_Old V B U H1 := by
  obtain ⟨h1, h2, h3, h4⟩ := h
  refine ⟨fun q hm => (va_Z.moved hW.alike (h1 q hm)).kept hq, fun x n v hv => ?_, fun x hx => ?_, fun x q hs => ?_⟩
  · obtain ⟨a, e1, e2⟩ := h2 x n v hv
    exact ⟨a, e1, (va_OF.moved hW.alike e2).kept hq⟩
  · obtain ⟨a, e1, e2⟩ := h3 x hx
    exact ⟨a, e1, (va_O.moved hW.alike e2).kept hq⟩
  · obtain ⟨a, e1, e2⟩ := h4 x q hs
    exact ⟨a, e1, vk_R.warm hW e2⟩
theorem ev_OA.moved {V : Nat → Value} {B : Nat} {σ : ev_M} {s U : State} {H H1 : Heap} (hW : s.WarmedH U.vm) (hq : ∀ q : Nat, q < H.size → ¬ ev_B B q → H1[q]? = H[q]?) (h : ev_OA V B σ s H) : ev_OA V B σ U H1 := by
  intro x q hx
  obtain ⟨a, e1, e2⟩ := h x q hx
  exact ⟨a, e1, (va_T.moved hW.alike e2).kept hq⟩
/-- the script stays -/
theorem ev_OA.same {V : Nat → Value} {B : Nat} {σ σ' : ev_M} {s : State} {H : Heap} (h1 : σ'.2.2.1 502 0 = σ.2.2.1 502 0) (h2 : ∀ j, σ'.2.2.2 502 j = σ.2.2.2 502 j) (h : ev_OA V B σ s H) : ev_OA V B σ' s H := by
  intro x q hx
  refine h x q ?_
  rw [← hx]
  unfold ev_oa
  rw [h1, show σ'.2.2.2 502 = σ.2.2.2 502 from funext h2]

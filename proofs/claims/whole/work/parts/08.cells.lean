/-! ONE STEP that reads or writes cells -/
def ev_sz (x : Nat) : Nat := match ev_sh x with
  | some (.inl q) => q.2.length
  | some (.inr q) => q.2
  | none => 0
def ev_sl : Nat → Nat
  | 0 => 0
  | n + 1 => ev_sl n + ev_sz n
theorem ev_sl_mono {a b : Nat} (h : a ≤ b) : ev_sl a ≤ ev_sl b := by
  induction b with
  | zero =>
    have : a = 0 := by omega
    subst this
    exact Nat.le_refl _
  | succ b ih =>
    by_cases hb : a = b + 1
    · subst hb
      exact Nat.le_refl _
    · exact Nat.le_trans (ih (by omega)) (Nat.le_add_right _ _)
section EVC
variable {p : Program} {l : Launch} {en : Env} {R : Room} {s : State} {mid : MethodId} {args : Array Value} {below : List Frame} {meth : Method} {c : Code} {H : Heap} {locs : List Loc} {Q : State → Prop}
variable {B : Nat} {V : Nat → Value} {dC : Nat → ClassId} {dI : Nat → Nat → Nat} {dA : Nat → ClassId} {bytes : ByteArray} {k cells slots : Nat} {lsR : Array Slot} {rest : List Value} {σ : ev_M}
/-- a loaded element -/
theorem ev_Wald (hx : p.tables.exec = Jvm.exec) (hb : c.code = bytes) (hV : ev_V V B) (hK : va_K (dC, dI) vwCl (ev_tys dA) s) (hN : ev_New V B dC dI dA σ H) (hA : ev_OA V B σ s s.heap) (hS : va_S (ev_B B) s.heap H locs)
    {i : Instr} {t n x : Nat} {j : Int32} (hl : ev_len σ x = some (t, n)) (h0 : ¬ j < 0) (hn : j.toNatClampNeg < n) (hd : decode bytes k = .ok (i, 1))
    (hi : (i = .iaload ∧ t = 0) ∨ (i = .caload ∧ t = 1) ∨ (i = .baload ∧ (t = 2 ∨ t = 3)) ∨ (i = .aaload ∧ t = 4))
    (kk : W p l en R s mid args below meth c H locs cells slots Q (F0 mid (k + 1) lsR (ev_av V (ev_get σ x j.toNatClampNeg) :: rest))) :
    W p l en R s mid args below meth c H locs cells slots Q (F0 mid k lsR (.int j :: V x :: rest)) := by
  obtain ⟨a, cell, e1, e2, e3, e4, e5, e6, e7⟩ := ev_arr hV hK hN hA hS hl
  rw [e1]
  have hin : ¬ (j < 0 ∨ cell.slots.size ≤ j.toNatClampNeg) := by
    rintro (q | q)
    · exact h0 q
    · omega
  rcases hi with ⟨rfl, rfl⟩ | ⟨rfl, rfl⟩ | ⟨rfl, rfl | rfl⟩ | ⟨rfl, rfl⟩
  · exact W.iald hx hb e2 e3 e4 hin (e7 _ hn) rfl rfl hd kk
  · exact W.cald hx hb e2 e3 e4 hin (e7 _ hn) rfl rfl hd kk
  · exact W.zald hx hb e2 e3 e4 hin (e7 _ hn) rfl rfl hd kk
  · exact W.bald hx hb e2 e3 e4 hin (e7 _ hn) rfl rfl hd kk
  · exact W.aald hx hb e2 e3 rfl e4 hin (e7 _ hn) rfl rfl hd kk
/-- a stored element -/
theorem ev_Wast (hx : p.tables.exec = Jvm.exec) (hb : c.code = bytes) (hV : ev_V V B) (hK : va_K (dC, dI) vwCl (ev_tys dA) s) (hN : ev_New V B dC dI dA σ H) (hS : va_S (ev_B B) s.heap H locs)
    {i : Instr} {t n x : Nat} {j v w : Int32} (hx0 : 1000 ≤ x) (hxt : x < σ.1) (hsh : ev_sh x = some (.inr (t, n))) (h0 : ¬ j < 0) (hn : j.toNatClampNeg < n) (hd : decode bytes k = .ok (i, 1))
    (hi : (i = .iastore ∧ t = 0 ∧ w = v) ∨ (i = .castore ∧ t = 1 ∧ w = vp_nar .char v) ∨ (i = .bastore ∧ t = 2 ∧ w = vp_nar .boolean v))
    (kk : ∀ (H' : Heap) (locs' : List Loc), ev_New V B dC dI dA (σ.1, σ.2.1, σ.2.2.1, ev_upd σ.2.2.2 x j.toNatClampNeg w) H' → va_S (ev_B B) s.heap H' locs' → W p l en R s mid args below meth c H' locs' cells slots Q (F0 mid (k + 1) lsR rest)) :
    W p l en R s mid args below meth c H locs cells slots Q (F0 mid k lsR (.int v :: .int j :: V x :: rest)) := by
  rw [hV.2.1 x hx0]
  obtain ⟨ht, hc⟩ := ev_new_arr hN hx0 hxt hsh
  have hin : ¬ (j < 0 ∨ (arrV (dA t) n (fun j => .int (σ.2.2.2 x j))).slots.size ≤ j.toNatClampNeg) := by
    rw [arrV_size]
    rintro (q | q)
    · exact h0 q
    · omega
  have har := (ev_fty_arr hK ht).1 n (fun j => .int (σ.2.2.2 x j))
  rcases hi with ⟨rfl, rfl, rfl⟩ | ⟨rfl, rfl, rfl⟩ | ⟨rfl, rfl, rfl⟩
  · exact W.iast hx hb hc har (fun h => by cases h) hin rfl rfl hd fun H' e1 e2 e3 => kk H' _ (hN.ast hx0 hxt hsh e2 e3 e1) (ev_va_S hS e2 e3)
  · exact W.cast hx hb hc har (fun h => by cases h) hin rfl rfl hd fun H' e1 e2 e3 => kk H' _ (hN.ast hx0 hxt hsh e2 e3 e1) (ev_va_S hS e2 e3)
  · exact W.zast hx hb hc har (fun h => by cases h) hin rfl rfl hd fun H' e1 e2 e3 => kk H' _ (hN.ast hx0 hxt hsh e2 e3 e1) (ev_va_S hS e2 e3)
theorem ev_getf_new {x n : Nat} {v : Value} (hx : ¬ x < 1000) (h : ev_getf σ x n = some v) : x < σ.1 ∧ ∃ q o, ev_sh x = some (.inl q) ∧ q.1 = n / 64 ∧ q.2[n % 64]? = some o ∧ ((o = none ∧ v = .int (σ.2.2.1 x (n % 64))) ∨ ∃ b, o = some b ∧ σ.2.1 = ev_nr ∧ v = .ref b) := by
  unfold ev_getf at h
  rw [if_neg hx] at h
  split at h
  · rename_i hlt
    split at h
    · rename_i q hq
      split at h
      · rename_i h1
        split at h
        · rename_i h2
          cases h
          exact ⟨hlt, q, none, hq, h1, h2, Or.inl ⟨rfl, rfl⟩⟩
        · rename_i b h2
          split at h
          · rename_i h3
            cases h
            exact ⟨hlt, q, some b, hq, h1, h2, Or.inr ⟨b, rfl, h3, rfl⟩⟩
          · cases h
        · cases h
      · cases h
    · cases h
  · cases h
theorem ev_putf_some {x n : Nat} {v : Value} {σ' : ev_M} (h : ev_putf σ x n v = some σ') : 1000 ≤ x ∧ x < σ.1 ∧ ∃ q o, ev_sh x = some (.inl q) ∧ q.1 = n / 64 ∧ q.2[n % 64]? = some o ∧
    ((o = none ∧ ∃ z, v = .int z ∧ σ' = (σ.1, σ.2.1, ev_upd σ.2.2.1 x (n % 64) z, σ.2.2.2)) ∨ ∃ b, o = some b ∧ v = .ref b ∧ ev_refs[σ.2.1]? = some (x, n % 64) ∧ σ' = (σ.1, σ.2.1 + 1, σ.2.2.1, σ.2.2.2)) := by
  unfold ev_putf at h
  split at h
  · cases h
  · rename_i hx
    split at h
    · rename_i hlt
      split at h
      · rename_i q hq
        split at h
        · rename_i h1
          split at h
          · rename_i z h2
            cases h
            exact ⟨by omega, hlt, q, none, hq, h1, h2, Or.inl ⟨rfl, z, rfl, rfl⟩⟩
          · rename_i b y h2
            split at h
            · rename_i h3
              obtain ⟨h3, h4⟩ := h3
              subst h3
              cases h
              exact ⟨by omega, hlt, q, _, hq, h1, h2, Or.inr ⟨_, rfl, rfl, h4, rfl⟩⟩
            · cases h
          · cases h
        · cases h
      · cases h
    · cases h
end EVC
/-! the classes and shapes, checked by program -/
def ev_clOK : Bool := vwCl.all fun r => ((u_ws r.1 r.2.1 r.2.2).all fun w => decide (w ∈ lw_tbl) && ev_gw w) && ((List.range r.2.2).all fun a => (List.range r.2.2).all fun b => decide (a = b) || decide ((r.2.1 a).2.1 ≠ (r.2.1 b).2.1))
def ev_shOK : Bool := ev_shs.all fun c => match c with
  | .inl q => (match vwCl[q.1]? with
    | some r => decide (q.2.length = r.2.2) && ((List.range r.2.2).all fun k => match parseFieldDescriptor (r.2.1 k).2.2.1, q.2.getD k none with
      | some .int, none => true
      | some (.object _), some _ => true
      | some (.array _), some _ => true
      | _, _ => false)
    | none => false)
  | .inr q => decide (q.1 < 3) && decide (q.2 ≤ 60000000)
def ev_rfOK : Bool := decide (ev_nr = ev_refs.length) && (List.range ev_shs.length).all fun i => match ev_shs[i]? with
  | some (.inl q) => (List.range q.2.length).all fun k => match q.2.getD k none with
    | some _ => decide ((1000 + i, k) ∈ ev_refs)
    | none => true
  | _ => true
set_option maxRecDepth 100000 in
theorem ev_rfOK_true : ev_rfOK = true := by decide +kernel
set_option maxRecDepth 100000 in
theorem ev_clOK_true : ev_clOK = true := by decide +kernel
set_option maxRecDepth 100000 in
theorem ev_shOK_true : ev_shOK = true := by decide +kernel
theorem ev_cl {k : Nat} {r : vw_C} (h : vwCl[k]? = some r) : (∀ w ∈ u_ws r.1 r.2.1 r.2.2, w ∈ lw_tbl ∧ ev_gw w = true) ∧ (∀ a, a < r.2.2 → ∀ b, b < r.2.2 → a ≠ b → (r.2.1 a).2.1 ≠ (r.2.1 b).2.1) := by
  have h1 := List.all_eq_true.mp ev_clOK_true r (List.mem_of_getElem? h)
  simp only [Bool.and_eq_true] at h1
  refine ⟨fun w hw => ?_, fun a ha b hb hab => ?_⟩
  · have h2 := List.all_eq_true.mp h1.1 w hw
    simp only [Bool.and_eq_true, decide_eq_true_eq] at h2
    exact h2
  · have h2 := List.all_eq_true.mp (List.all_eq_true.mp h1.2 a (List.mem_range.mpr ha)) b (List.mem_range.mpr hb)
    simp only [Bool.or_eq_true, decide_eq_true_eq] at h2
    rcases h2 with h2 | h2
    · exact absurd h2 hab
    · exact h2
theorem ev_sh_mem {x : Nat} {c : (Nat × List (Option Nat)) ⊕ (Nat × Nat)} (h : ev_sh x = some c) : 1000 ≤ x ∧ c ∈ ev_shs := by
  unfold ev_sh at h
  split at h
  · cases h
  · exact ⟨by omega, List.mem_of_getElem? h⟩
/-- the shape of an object: its class, and of each field what kind it is -/
theorem ev_shO {x : Nat} {q : Nat × List (Option Nat)} (h : ev_sh x = some (.inl q)) : ∃ (r : vw_C) (ty : Nat → FieldType), vwCl[q.1]? = some r ∧ q.2.length = r.2.2 ∧ (∀ k, k < r.2.2 → parseFieldDescriptor (r.2.1 k).2.2.1 = some (ty k)) ∧
    ∀ k, k < r.2.2 → (ty k = .int ∧ q.2.getD k none = none) ∨ (((∃ z, ty k = .object z) ∨ ∃ z, ty k = .array z) ∧ ∃ b, q.2.getD k none = some b) := by
  have h1 := List.all_eq_true.mp ev_shOK_true _ (ev_sh_mem h).2
  dsimp only at h1
  split at h1
  · rename_i r hr
    simp only [Bool.and_eq_true, decide_eq_true_eq] at h1
    have key : ∀ k, k < r.2.2 → ∃ t, parseFieldDescriptor (r.2.1 k).2.2.1 = some t ∧ ((t = .int ∧ q.2.getD k none = none) ∨ (((∃ z, t = .object z) ∨ ∃ z, t = .array z) ∧ ∃ b, q.2.getD k none = some b)) := by
      intro k hk
      have h2 := List.all_eq_true.mp h1.2 k (List.mem_range.mpr hk)
      split at h2
      · rename_i e1 e2
        exact ⟨_, e1, Or.inl ⟨rfl, e2⟩⟩
      · rename_i e1 e2
        exact ⟨_, e1, Or.inr ⟨Or.inl ⟨_, rfl⟩, _, e2⟩⟩
      · rename_i e1 e2
        exact ⟨_, e1, Or.inr ⟨Or.inr ⟨_, rfl⟩, _, e2⟩⟩
      · cases h2
    refine ⟨r, fun k => (parseFieldDescriptor (r.2.1 k).2.2.1).getD .int, hr, h1.1, fun k hk => ?_, fun k hk => ?_⟩
    · obtain ⟨t, e1, -⟩ := key k hk
      dsimp only
      rw [e1]
      rfl
    · obtain ⟨t, e1, e2⟩ := key k hk
      dsimp only
      rw [e1]
      exact e2
  · cases h1
/-- every reference field is laid at last -/
theorem ev_refs_all {x k b : Nat} {q : Nat × List (Option Nat)} (h : ev_sh x = some (.inl q)) (hk : q.2.getD k none = some b) : ev_Rf ev_nr x k = true := by
  have h1 := ev_rfOK_true
  simp only [ev_rfOK, Bool.and_eq_true, decide_eq_true_eq] at h1
  unfold ev_Rf
  rw [h1.1, List.take_length]
  unfold ev_sh at h
  split at h
  · cases h
  · rename_i hx
    have h2 := List.all_eq_true.mp h1.2 (x - 1000) (List.mem_range.mpr (List.getElem?_eq_some_iff.mp h).1)
    rw [h] at h2
    dsimp only at h2
    have hkl : k < q.2.length := by
      rw [List.getD_eq_getElem?_getD] at hk
      rcases Nat.lt_or_ge k q.2.length with g | g
      · exact g
      · rw [List.getElem?_eq_none g] at hk
        cases hk
    have h3 := List.all_eq_true.mp h2 k (List.mem_range.mpr hkl)
    rw [hk] at h3
    dsimp only at h3
    rw [show 1000 + (x - 1000) = x by omega] at h3
    exact h3
theorem ev_shA {x t n : Nat} (h : ev_sh x = some (.inr (t, n))) : t < 3 ∧ n ≤ 60000000 := by
  have h1 := List.all_eq_true.mp ev_shOK_true _ (ev_sh_mem h).2
  simp only [Bool.and_eq_true, decide_eq_true_eq] at h1
  exact h1
section EVD
variable {p : Program} {l : Launch} {en : Env} {R : Room} {s : State} {mid : MethodId} {args : Array Value} {below : List Frame} {meth : Method} {c : Code} {H : Heap} {locs : List Loc} {Q : State → Prop}
variable {B : Nat} {V : Nat → Value} {dC : Nat → ClassId} {dI : Nat → Nat → Nat} {dA : Nat → ClassId} {bytes : ByteArray} {k cells slots : Nat} {lsR : Array Slot} {rest : List Value} {σ : ev_M}
theorem ev_hts (hTB : ev_TB s) {k : Nat} {r : vw_C} (h : vwCl[k]? = some r) (A : Array Value) : ∀ w ∈ u_ws r.1 r.2.1 r.2.2, w.before A s = true := fun w hw => hTB w ((ev_cl h).1 w hw).1 ((ev_cl h).1 w hw).2 A
/-- a field that is read, of an object made here -/
theorem ev_Wget (hx : p.tables.exec = Jvm.exec) (hb : c.code = bytes) (hV : ev_V V B) (hTB : ev_TB s) (hK : va_K (dC, dI) vwCl (ev_tys dA) s) (hN : ev_New V B dC dI dA σ H) {own : String} (hown : s.vm.findClass own = some mid.cls)
    {x n i : Nat} {v : Value} {pl : List Nat} (hx0 : ¬ x < 1000) (hg : ev_getf σ x n = some v) (hn : n < 1280) (hck : ev_ckF own i n pl = true) (hd : decode bytes k = .ok (.getfield i, 3))
    (kk : W p l en R s mid args below meth c H locs cells slots Q (F0 mid (k + 3) lsR (ev_av V v :: rest))) : W p l en R s mid args below meth c H locs cells slots Q (F0 mid k lsR (V x :: rest)) := by
  obtain ⟨hxt, q, o, hq, hqc, ho, hv⟩ := ev_getf_new hx0 hg
  rw [hV.2.1 x (by omega)]
  have hc := hN.2.2.1 x (by omega) hxt
  unfold ev_cell at hc
  rw [hq] at hc
  obtain ⟨r, hr, hlen, cell, q1, q2, q3, q4⟩ := hc
  unfold ev_ckF at hck
  rw [if_pos hn, ← hqc, hr] at hck
  simp only [Bool.and_eq_true, decide_eq_true_eq] at hck
  obtain ⟨hS, hfc, kC, hkC, hkind⟩ := hK.1 q.1 _ hr
  obtain ⟨cf, kf, fi, f, hi, hsl⟩ := hS (n % 64) hck.1
  refine W.getf hx hb hown (hTB.use hck.2 args) hi (u_facts hfc hkC (u_lays (ev_hts hTB hr args) (fun w h => h) hck.1) hi).1 q1 (by rw [q3]; exact fun h => by cases h) (v := ev_av V v) ?_ rfl rfl hd kk
  rw [hsl, q4 (n % 64) hck.1]
  dsimp only
  rw [show q.2.getD (n % 64) none = o by rw [List.getD_eq_getElem?_getD, ho]; rfl]
  rcases hv with ⟨rfl, rfl⟩ | ⟨b, rfl, hb2, rfl⟩
  · rfl
  · have h8 : ev_Rf σ.2.1 x (n % 64) = true := by rw [hb2]; exact ev_refs_all hq (by rw [List.getD_eq_getElem?_getD, ho]; rfl)
    simp [ev_fv, h8, ev_av]
/-- a field that is read, of an object that was there before -/
theorem ev_WgetO (hx : p.tables.exec = Jvm.exec) (hb : c.code = bytes) (hTB : ev_TB s) (hO : ev_Old V B s s.heap) (hS : va_S (ev_B B) s.heap H locs) {own : String} (hown : s.vm.findClass own = some mid.cls)
    {x n i : Nat} {v : Value} {pl : List Nat} (hg : ev_of x (n % 100000) = some v) (hn : ¬ n < 1280) (hck : ev_ckF own i n pl = true) (hd : decode bytes k = .ok (.getfield i, 3))
    (kk : W p l en R s mid args below meth c H locs cells slots Q (F0 mid (k + 3) lsR (ev_av V v :: rest))) : W p l en R s mid args below meth c H locs cells slots Q (F0 mid k lsR (V x :: rest)) := by
  obtain ⟨a, e1, hE⟩ := hO.2.1 x _ v hg
  rw [e1]
  unfold ev_ckF at hck
  rw [if_neg hn] at hck
  split at hck
  · rename_i hlt
    rw [Nat.mod_eq_of_lt hlt] at hE
    exact vk_getf hx hb hE hS hown (hTB.use hck args) (fun _ h => h) hd kk
  · simp only [Bool.and_eq_true, decide_eq_true_eq] at hck
    obtain ⟨cf, k2, fi, f, cell, h1, h2, h3, h4, h5, h6⟩ := hE.kept hS.2.1
    exact va_Wgetf hx hb hown (hTB.use hck.1 args) h1 h2 h3 h4 (v := ev_av V v) h5 rfl rfl hd kk
/-- a field that is written -/
theorem ev_Wput (hx : p.tables.exec = Jvm.exec) (hb : c.code = bytes) (hV : ev_V V B) (hTB : ev_TB s) (hK : va_K (dC, dI) vwCl (ev_tys dA) s) (hN : ev_New V B dC dI dA σ H) (hS0 : va_S (ev_B B) s.heap H locs) {y : MethodName} (hown : s.vm.findClass y.cls = some mid.cls) (hnm : meth.name = y.name)
    {x n i : Nat} {v : Value} {pl : List Nat} {σ' : ev_M} (hg : ev_putf σ x n v = some σ') (hck : ev_ckP y i n pl = true) (hd : decode bytes k = .ok (.putfield i, 3))
    (kk : ∀ (H' : Heap) (locs' : List Loc), ev_New V B dC dI dA σ' H' → va_S (ev_B B) s.heap H' locs' → W p l en R s mid args below meth c H' locs' cells slots Q (F0 mid (k + 3) lsR rest)) : W p l en R s mid args below meth c H locs cells slots Q (F0 mid k lsR (ev_av V v :: V x :: rest)) := by
  obtain ⟨hx0, hxt, q, o, hq, hqc, ho, hv⟩ := ev_putf_some hg
  rw [hV.2.1 x hx0]
  have hc := hN.2.2.1 x hx0 hxt
  unfold ev_cell at hc
  rw [hq] at hc
  obtain ⟨r, hr, hlen, cell, q1, q2, q3, q4⟩ := hc
  obtain ⟨r', ty, hr', -, hty, hkd⟩ := ev_shO hq
  cases hr.symm.trans hr'
  unfold ev_ckP at hck
  rw [← hqc, hr] at hck
  simp only [Bool.and_eq_true, decide_eq_true_eq, Bool.or_eq_true] at hck
  obtain ⟨hn, ⟨hkN, hlk⟩, hfin⟩ := hck
  have hin : ∀ w ∈ u_ws r.1 r.2.1 r.2.2, w ∈ u_ws r.1 r.2.1 r.2.2 := fun _ h => h
  have hts := ev_hts hTB hr args
  have hap := va_apart (own := y.cls) hts hin ty hty (ev_cl hr).2 hK hr
  obtain ⟨hS, hfc, kC, hkC, hkind⟩ := hK.1 q.1 _ hr
  obtain ⟨cf, kf, fi, f, hi, hsl⟩ := hS (n % 64) hkN
  have hst := (u_facts hfc hkC (u_lays hts hin hkN) hi).1
  have hgd : q.2.getD (n % 64) none = o := by rw [List.getD_eq_getElem?_getD, ho]; rfl
  have hvt : narrow (ty (n % 64)) (ev_av V v) = ev_av V v ∧ fits (ty (n % 64)) (ev_av V v) = true := by
    rcases hkd (n % 64) hkN with ⟨e1, e2⟩ | ⟨e1, b, e2⟩
    · rw [hgd] at e2
      rcases hv with ⟨-, z, rfl, -⟩ | ⟨b, rfl, -, -⟩
      · rw [e1]
        exact ⟨rfl, rfl⟩
      · cases e2
    · rw [hgd] at e2
      rcases hv with ⟨rfl, -⟩ | ⟨b', rfl, rfl, -, -⟩
      · cases e2
      · rcases hV.1 b' with h0 | ⟨a, h0⟩ <;> rcases e1 with ⟨z, e1⟩ | ⟨z, e1⟩ <;> rw [e1] <;> simp [ev_av, h0, narrow, fits]
  have hlay0 := hts _ (hin _ (u_in_lay hkN))
  have fin : ∀ H' : Heap, H'[B + (x - 1000)]? = some (cell.setSlot f.slot (ev_av V v)) → H'.size = H.size → (∀ z, z ≠ B + (x - 1000) → H'[z]? = H[z]?) → W p l en R s mid args below meth c H' (locs ++ [⟨B + (x - 1000), f.slot⟩]) cells slots Q (F0 mid (k + 3) lsR rest) := by
    intro H' e1 e2 e3
    rw [hsl] at e1
    refine kk H' _ ?_ (ev_va_S hS0 e2 e3)
    have hset := t_set q4 hap hkN (ev_av V v)
    rcases hv with ⟨rfl, z, rfl, rfl⟩ | ⟨b, rfl, rfl, hrf, rfl⟩
    · refine hN.put hx0 hxt rfl e2 e3 (fun y hy j => ⟨rfl, ev_upd_ne hy j, rfl⟩) ?_
      unfold ev_cell
      rw [hq]
      refine ⟨r, hr, hlen, t_OB.to ⟨_, e1, q2, q3, hset⟩ fun j hj => ?_⟩
      by_cases hjk : j = n % 64
      · subst hjk
        rw [hgd]
        simp [updV, ev_fv, ev_upd_at, ev_av]
      · simp only [updV, if_neg hjk, ev_fv, ev_upd_at]
    · refine hN.put hx0 hxt rfl e2 e3 (fun y hy j => ⟨by dsimp only; rw [ev_Rf_next hrf, if_neg (fun z => hy z.1)], rfl, rfl⟩) ?_
      unfold ev_cell
      rw [hq]
      refine ⟨r, hr, hlen, t_OB.to ⟨_, e1, q2, q3, hset⟩ fun j hj => ?_⟩
      by_cases hjk : j = n % 64
      · subst hjk
        rw [hgd]
        simp [updV, ev_fv, ev_Rf_next hrf, ev_av]
      · simp only [updV, if_neg hjk, ev_fv, ev_Rf_next hrf, hjk, and_false, if_false]
  by_cases hf : (r.2.1 (n % 64)).2.2.2 = false
  · have hlay := hlay0
    unfold u_lay at hlay
    rw [if_neg (by rw [hf]; decide)] at hlay
    have h6 := u_store hfc hkC hkind hlay hi (hty _ hkN) hvt.1 hvt.2
    exact W.putK hx hb (f := f) ⟨hown, hTB.use hlk args, ⟨_, _, _, hi⟩, hst⟩ (by rw [q2]; exact h6) q1 q3 (by rw [hsl]; exact k2_hasslot (q4 (n % 64) hkN)) rfl rfl hd fin
  · obtain ⟨hin2, hdecl⟩ := hfin.resolve_left hf
    have hf : (r.2.1 (n % 64)).2.2.2 = true := by simpa using hf
    have hlay := hlay0
    unfold u_lay at hlay
    rw [if_pos hf] at hlay
    have hcf : mid.cls = cf := by
      obtain ⟨_, _, c', _, _, _, -, -, hf', -, -, -, hown2, -⟩ := Cond.laysFinal_spec hlay
      have e1 : c' = cf := by have := hi.symm.trans hf'; simp at this; exact this.1.symm
      rw [hdecl] at hown2
      rw [← e1]; exact Option.some.inj (hown.symm.trans hown2)
    have h6 := u_fits hfc hkC hkind (Or.inr hlay) hi (hty _ hkN) hvt.1 hvt.2
    exact W.putFinK hx hb hown (hTB.use hlk args) hi hst hcf (by rw [hnm, hin2]) (by rw [q2]; exact h6) q1 q3 (by rw [hsl]; exact k2_hasslot (q4 (n % 64) hkN)) rfl rfl hd fin
/-- behind a cell that was made -/
theorem ev_New.push (hN : ev_New V B dC dI dA σ H) {H1 : Heap} (hz : H1.size = H.size + 1) (ho : ∀ q, q < H.size → H1[q]? = H[q]?) (hc : ev_cell V B dC dI dA σ H1 σ.1) : ev_New V B dC dI dA (σ.1 + 1, σ.2) H1 := by
  obtain ⟨h1, h2, h3, h4⟩ := hN
  refine ⟨by dsimp only; omega, by dsimp only; omega, fun x hx hxt => ?_, fun x hx k => h4 x (by dsimp only at hx; omega) k⟩
  dsimp only at hxt
  have same : ∀ G : Heap, ev_cell V B dC dI dA σ G x → ev_cell V B dC dI dA (σ.1 + 1, σ.2) G x := fun G h => h
  by_cases hxs : x = σ.1
  · subst hxs
    exact same _ hc
  · have h5 := h3 x hx (by omega)
    have h6 : H1[B + (x - 1000)]? = H[B + (x - 1000)]? := ho _ (by omega)
    apply same
    unfold ev_cell at h5 ⊢
    split at h5
    · obtain ⟨r, e1, e2, e3⟩ := h5
      exact ⟨r, e1, e2, e3.kept h6⟩
    · exact ⟨h5.1, by rw [h6]; exact h5.2⟩
    · exact h5
/-- an object is made -/
theorem ev_Wnew (hx : p.tables.exec = Jvm.exec) (hb : c.code = bytes) (hV : ev_V V B) (hTB : ev_TB s) (hK : va_K (dC, dI) vwCl (ev_tys dA) s) (hN : ev_New V B dC dI dA σ H) (hS : va_S (ev_B B) s.heap H locs) {own : String} (hown : s.vm.findClass own = some mid.cls)
    {i : Nat} {q : Nat × List (Option Nat)} {r : vw_C} {p0 p1 p2 : Nat} (hq : ev_sh σ.1 = some (.inl q)) (hr : vwCl[q.1]? = some r) (h0 : ev_w p0 (.classLink own i r.1) = true) (h1 : ev_w p1 (.instantiable r.1 r.2.2) = true) (h2 : ev_w p2 (.initialized r.1) = true) (hd : decode bytes k = .ok (.new i, 3))
    (hcells : cells + 1 ≤ R.cells) (hslots : slots + ev_sz σ.1 ≤ R.slots)
    (kk : ∀ H' : Heap, ev_New V B dC dI dA (σ.1 + 1, σ.2) H' → va_S (ev_B B) s.heap H' locs → W p l en R s mid args below meth c H' locs (cells + 1) (slots + ev_sz σ.1) Q (F0 mid (k + 3) lsR (V σ.1 :: rest))) : W p l en R s mid args below meth c H locs cells slots Q (F0 mid k lsR rest) := by
  obtain ⟨r', ty, hr', hlen, hty, hkd⟩ := ev_shO hq
  cases hr.symm.trans hr'
  have hsz : ev_sz σ.1 = r.2.2 := by unfold ev_sz; rw [hq]; exact hlen
  rw [hsz] at hslots kk
  have hKn := hK.1 q.1 _ hr
  have hV0 : V σ.1 = .ref H.size := by rw [hV.2.1 σ.1 hN.1, hN.2.1]
  rw [hV0] at kk
  refine W.newcK hx hb hown (hTB.use h0 args) (hTB.use h1 args) (hTB.use h2 args) rfl hd hcells hslots hKn.2.1 rfl fun H1 kC hkC e1 z1 o1 => ?_
  refine kk H1 (hN.push z1 o1 ?_) ⟨Nat.le_trans hS.1 (by omega), fun x g1 g2 => (o1 x (Nat.lt_of_lt_of_le g1 hS.1)).trans (hS.2.1 x g1 g2), hS.2.2⟩
  unfold ev_cell
  rw [hq]
  refine ⟨r, hr, hlen, ?_⟩
  have e2 : H.size = B + (σ.1 - 1000) := hN.2.1
  rw [e2] at e1
  refine (u_born ty (ev_hts hTB hr args) (fun w h => h) hKn hkC e1 hty).to fun j hj => ?_
  have hz := hN.2.2.2 σ.1 (Nat.le_refl _) j
  rcases hkd j hj with ⟨g1, g2⟩ | ⟨g1, b, g2⟩
  · rw [g1, g2]
    simp [ev_fv, hz.2.1, defaultValue]
  · rw [g2]
    rcases g1 with ⟨z, g1⟩ | ⟨z, g1⟩ <;> rw [g1] <;> simp [ev_fv, hz.1, defaultValue]
theorem ev_tag_ty {t : ArrayType} (h : ev_tag t < 3) : newarray.typeOf t = ev_fty (ev_tag t) := by
  cases t <;> simp [ev_tag] at h <;> rfl
theorem ev_def (t : Nat) (ht : t < 3) : defaultValue (ev_fty t) = .int 0 := by
  match t, ht with
  | 0, _ => rfl
  | 1, _ => rfl
  | 2, _ => rfl
theorem ev_bytes (t n : Nat) (ht : t < 3) (hn : n ≤ 60000000) : n * componentBytes (ev_fty t) ≤ 536870912 := by
  match t, ht with
  | 0, _ =>
    show n * 4 ≤ _
    omega
  | 1, _ =>
    show n * 2 ≤ _
    omega
  | 2, _ =>
    show n * 1 ≤ _
    omega
/-- an array is made -/
theorem ev_Wnewa (hx : p.tables.exec = Jvm.exec) (hb : c.code = bytes) (hV : ev_V V B) (hTB : ev_TB s) (hK : va_K (dC, dI) vwCl (ev_tys dA) s) (hN : ev_New V B dC dI dA σ H) (hS : va_S (ev_B B) s.heap H locs)
    {t : ArrayType} {z : Int32} {n p0 : Nat} (hq : ev_sh σ.1 = some (.inr (ev_tag t, n))) (h0 : ev_w p0 (.arrayClass (newarray.typeOf t)) = true) (hz0 : ¬ z < 0) (hzn : z.toNatClampNeg = n) (hd : decode bytes k = .ok (.newarray t, 2))
    (hcells : cells + 1 ≤ R.cells) (hslots : slots + ev_sz σ.1 ≤ R.slots)
    (kk : ∀ H' : Heap, ev_New V B dC dI dA (σ.1 + 1, σ.2) H' → va_S (ev_B B) s.heap H' locs → W p l en R s mid args below meth c H' locs (cells + 1) (slots + ev_sz σ.1) Q (F0 mid (k + 2) lsR (V σ.1 :: rest))) : W p l en R s mid args below meth c H locs cells slots Q (F0 mid k lsR (.int z :: rest)) := by
  obtain ⟨ht, hn⟩ := ev_shA hq
  have hsz : ev_sz σ.1 = n := by unfold ev_sz; rw [hq]
  rw [hsz] at hslots kk
  have hV0 : V σ.1 = .ref H.size := by rw [hV.2.1 σ.1 hN.1, hN.2.1]
  rw [hV0] at kk
  have hty := ev_tag_ty ht
  refine va_newaK hx hb (hTB.use h0 args) rfl hd rfl hz0 hzn (by rw [hty]; exact ev_bytes _ _ ht hn) hcells hslots rfl fun H1 cA e1 z1 o1 hAr hNm => ?_
  refine kk H1 (hN.push z1 o1 ?_) ⟨Nat.le_trans hS.1 (by omega), fun x g1 g2 => (o1 x (Nat.lt_of_lt_of_le g1 hS.1)).trans (hS.2.1 x g1 g2), hS.2.2⟩
  unfold ev_cell
  rw [hq]
  refine ⟨ht, ?_⟩
  have hcA : cA = dA (ev_tag t) := by
    have h3 := (ev_fty_arr hK ht).2
    rw [hty] at hNm
    have h4 : s.vm.findClass ("[" ++ (ev_fty (ev_tag t)).toString) = some (dA (ev_tag t)) := by
      have : ∀ u, u < 3 → va_RA s (dA (ev_tag t)) (ev_fty u) → s.vm.findClass ("[" ++ (ev_fty u).toString) = some (dA (ev_tag t)) := by
        intro u hu h
        match u, hu with
        | 0, _ => exact h
        | 1, _ => exact h
        | 2, _ => exact h
      exact this _ ht h3
    exact Option.some.inj (hNm.symm.trans h4)
  have e2 : H.size = B + (σ.1 - 1000) := hN.2.1
  rw [e2] at e1
  rw [e1, hty, ev_def _ ht, hcA]
  congr 2
  funext j
  rw [(hN.2.2.2 σ.1 (Nat.le_refl _) j).2.2]
end EVD

/-! WHAT A PROGRAM CHECKS of the tables: each instruction is the code's own, and each link of it stands among the words -/
def ev_ilen (i : Instr) : Nat := match i with
  | .iconst _ => 1
  | .bipush _ => 2
  | .sipush _ => 3
  | .lconst _ => 1
  | .aconst_null => 1
  | .ldc _ => 2
  | .ldc_w _ => 3
  | .ldc2_w _ => 3
  | .getstatic _ => 3
  | .iload_n _ => 1
  | .iload _ => 2
  | .aload_n _ => 1
  | .aload _ => 2
  | .lload_n _ => 1
  | .lload _ => 2
  | .istore_n _ => 1
  | .istore _ => 2
  | .astore_n _ => 1
  | .astore _ => 2
  | .lstore_n _ => 1
  | .lstore _ => 2
  | .iinc _ _ => 3
  | .ifCond _ _ => 3
  | .if_icmp _ _ => 3
  | .goto _ => 3
  | .ifnull _ => 3
  | .ifnonnull _ => 3
  | .if_acmp _ _ => 3
  | .tableswitch _ _ _ _ => 0
  | .getfield _ => 3
  | .putfield _ => 3
  | .new _ => 3
  | .newarray _ => 2
  | .invokespecial _ => 3
  | .invokestatic _ => 3
  | .invokevirtual _ => 3
  | _ => 1
def ev_w (i : Nat) (w : Jvm.Cond) : Bool := decide (lw_tbl[i]? = some w) && ev_gw w
theorem ev_w_mem {i : Nat} {w : Jvm.Cond} (h : ev_w i w = true) : w ∈ lw_tbl ∧ ev_gw w = true := by
  simp only [ev_w, Bool.and_eq_true, decide_eq_true_eq] at h
  exact ⟨List.mem_of_getElem? h.1, h.2⟩
theorem ev_TB.use {s : State} (hT : ev_TB s) {i : Nat} {w : Jvm.Cond} (h : ev_w i w = true) (A : Array Value) : w.before A s = true := hT w (ev_w_mem h).1 (ev_w_mem h).2 A
def ev_ckJ (k : Nat) (o : Int) (lk : Value) : Bool := match lk with
  | .ref t => decide ((k : Int) + o = (t : Int))
  | _ => false
/-- a field that is read: of a class whose objects are made here, or of one that was there before -/
def ev_ckF (own : String) (i n : Nat) (pl : List Nat) : Bool :=
  if n < 1280 then (match vwCl[n / 64]? with
    | some r => decide (n % 64 < r.2.2) && ev_w (pl.getD 0 0) (.fieldLink own i (r.2.1 (n % 64)).1 (r.2.1 (n % 64)).2.1 (r.2.1 (n % 64)).2.2.1)
    | none => false)
  else if n < 100000 then ev_w (pl.getD 0 0) (.fieldLink own i (ev_fn n).1 (ev_fn n).2.1 (ev_fn n).2.2)
  else ev_w (pl.getD 0 0) (.fieldLinkNest own i (ev_fn (n % 100000)).1 (ev_fn (n % 100000)).2.1 (ev_fn (n % 100000)).2.2 "StemRules") && decide (1280 ≤ n % 100000)
def ev_ckP (y : MethodName) (i n : Nat) (pl : List Nat) : Bool :=
  decide (n < 1280) && (match vwCl[n / 64]? with
    | some r => decide (n % 64 < r.2.2) && ev_w (pl.getD 0 0) (.fieldLink y.cls i (r.2.1 (n % 64)).1 (r.2.1 (n % 64)).2.1 (r.2.1 (n % 64)).2.2.1)
      && (decide ((r.2.1 (n % 64)).2.2.2 = false) || (decide (y.name = "<init>") && decide ((r.2.1 (n % 64)).1 = y.cls)))
    | none => false)
def ev_ckC (own : String) (i m0 kind : Nat) (pl : List Nat) : Bool := match ev_nm[m0 % 100000]? with
  | some q => (if m0 < 100000 then ev_w (pl.getD 0 0) (.methodLink own i q.1) else decide (kind ≠ 2) && ev_w (pl.getD 0 0) (.methodLinkNest own i q.1 "StemRules"))
    && (match kind with
      | 0 => ev_w (pl.getD 1 0) (.static q.1)
      | 1 => ev_w (pl.getD 1 0) (.instanceMethod q.1) && decide (q.1.name = "<init>") && decide (q.2.2 = none)
      | _ => ev_w (pl.getD 1 0) (.instanceMethod q.1) && ev_w (pl.getD 2 0) (.selects q.1.cls q.1 q.1)
        && (if (ev_mt (m0 % 100000)).2.2.2 = 99 then decide (q.1.cls = "java/lang/String") else decide (((vwCl[(ev_mt (m0 % 100000)).2.2.2]?).map fun r => r.1) = some q.1.cls)))
    && decide (m0 % 100000 + 1 < ev_nm.length)
  | none => false
def ev_ck (y : MethodName) (bytes : ByteArray) (k : Nat) (e : Instr × Nat × Value) (pl : List Nat) : Bool :=
  decide (decode bytes k = .ok (e.1, e.2.1)) && (decide (ev_ilen e.1 = 0) || decide (e.2.1 = ev_ilen e.1)) &&
  (match e.1 with
  | .ifCond _ o => ev_ckJ k o e.2.2
  | .if_icmp _ o => ev_ckJ k o e.2.2
  | .if_acmp _ o => ev_ckJ k o e.2.2
  | .goto o => ev_ckJ k o e.2.2
  | .ifnull o => ev_ckJ k o e.2.2
  | .ifnonnull o => ev_ckJ k o e.2.2
  | .ldc i => (match e.2.2 with
    | .int v => ev_w (pl.getD 0 0) (.constant y.cls i v)
    | .ref x => decide ((ev_strs[x]?).map (fun q => (q.1, q.2.1)) = some (y.cls, i))
    | _ => false)
  | .ldc_w i => (match e.2.2 with
    | .int v => ev_w (pl.getD 0 0) (.constant y.cls i v)
    | _ => false)
  | .ldc2_w i => (match e.2.2 with
    | .long v => ev_w (pl.getD 0 0) (.constantLong y.cls i v)
    | _ => false)
  | .getstatic i => ev_sts.any fun q => decide (q.2.2.2 = e.2.2) && ev_w (pl.getD 0 0) (.fieldLink y.cls i q.1 q.2.1 q.2.2.1)
  | .getfield i => (match e.2.2 with
    | .ref n => ev_ckF y.cls i n pl
    | _ => false)
  | .putfield i => (match e.2.2 with
    | .ref n => ev_ckP y i n pl
    | _ => false)
  | .new i => (match e.2.2 with
    | .ref n => (match vwCl[n]? with
      | some r => ev_w (pl.getD 0 0) (.classLink y.cls i r.1) && ev_w (pl.getD 1 0) (.instantiable r.1 r.2.2) && ev_w (pl.getD 2 0) (.initialized r.1)
      | none => false)
    | _ => false)
  | .newarray t => ev_w (pl.getD 0 0) (.arrayClass (newarray.typeOf t)) && decide (ev_tag t < 3)
  | .invokespecial i => (match e.2.2 with
    | .null => ev_w (pl.getD 0 0) (.methodLink y.cls i objectInit) && ev_w (pl.getD 1 0) (.instanceMethod objectInit) && ev_w (pl.getD 2 0) (.code objectInit ⟨#[0xb1]⟩ 1 none)
    | .ref n => ev_ckC y.cls i n 1 pl
    | _ => false)
  | .invokestatic i => (match e.2.2 with
    | .null => ev_w (pl.getD 0 0) (.methodLink y.cls i arraycopyName) && ev_w (pl.getD 1 0) (.native arraycopyName) && ev_w (pl.getD 2 0) (.static arraycopyName) && ev_w (pl.getD 3 0) (.initialized "java/lang/System")
    | .ref n => ev_ckC y.cls i n 0 pl
    | _ => false)
  | .invokevirtual i => (match e.2.2 with
    | .ref n => ev_ckC y.cls i n 2 pl
    | _ => false)
  | _ => true)
def ev_rtok (r : Nat) (t : Option FieldType) : Bool := match r, t with
  | 0, none => true
  | 1, some .int => true
  | 2, some .boolean => true
  | 3, some .char => true
  | 4, some (.object _) => true
  | 5, some .long => true
  | 6, some .byte => true
  | _, _ => false
/-- of a method that is called: its code and its class stand among the words, its numbers are its own -/
def ev_ckM (q : MethodName × ByteArray × Option FieldType) (t : Nat × Nat × Nat × Nat) (pl : List Nat) : Bool :=
  ev_w (pl.getD 0 0) (.code q.1 q.2.1 t.1 q.2.2) && ev_w (pl.getD 1 0) (.initialized q.1.cls) && decide (t.1 ≤ 20) && plainName q.1.cls && ev_rtok t.2.2.1 q.2.2
    && decide (q.1.cls ≠ "java/lang/invoke/MethodHandle") && decide (q.1.cls ≠ "java/lang/invoke/VarHandle") && decide ((parseMethodDescriptor q.1.desc).map (fun d => d.parameters.length) = some t.2.1)
def ev_ckA (y : MethodName) (bytes : ByteArray) : Nat → List (Option (Instr × Nat × Value)) → List (List Nat) → Bool
  | _, [], _ => true
  | k, none :: r, pls => ev_ckA y bytes (k + 1) r pls
  | k, some e :: r, pl :: pls => ev_ck y bytes k e pl && ev_ckA y bytes (k + 1) r pls
  | _, some _ :: _, [] => false
theorem ev_ckA_at {y : MethodName} {bytes : ByteArray} : ∀ (cs : List (Option (Instr × Nat × Value))) (k : Nat) (pls : List (List Nat)), ev_ckA y bytes k cs pls = true → ∀ (j : Nat) (e : Instr × Nat × Value), cs[j]? = some (some e) → ∃ pl, ev_ck y bytes (k + j) e pl = true
  | [], k, pls, _, j, e, h => by simp at h
  | none :: r, k, pls, hc, j, e, h => by
    cases j with
    | zero => simp at h
    | succ j =>
      rw [List.getElem?_cons_succ] at h
      obtain ⟨pl, hp⟩ := ev_ckA_at r (k + 1) pls hc j e h
      exact ⟨pl, by rw [show k + (j + 1) = k + 1 + j by omega]; exact hp⟩
  | some e0 :: r, k, [], hc, j, e, h => by cases hc
  | some e0 :: r, k, pl :: pls, hc, j, e, h => by
    simp only [ev_ckA, Bool.and_eq_true] at hc
    cases j with
    | zero =>
      simp only [List.getElem?_cons_zero, Option.some.injEq] at h
      subst h
      exact ⟨pl, hc.1⟩
    | succ j =>
      rw [List.getElem?_cons_succ] at h
      obtain ⟨pl, hp⟩ := ev_ckA_at r (k + 1) pls hc.2 j e h
      exact ⟨pl, by rw [show k + (j + 1) = k + 1 + j by omega]; exact hp⟩
/-- every instruction of a method's code is checked -/
def ev_okm (y : MethodName) (bytes : ByteArray) (cs : List (Option (Instr × Nat × Value))) : Prop := ∀ (j : Nat) (e : Instr × Nat × Value), cs[j]? = some (some e) → ∃ pl, ev_ck y bytes j e pl = true
theorem ev_okm_one {y : MethodName} {bytes : ByteArray} {cs : List (Option (Instr × Nat × Value))} {pls : List (List Nat)} (h : ev_ckA y bytes 0 cs pls = true) : ev_okm y bytes cs := by
  intro j e hj
  obtain ⟨pl, hp⟩ := ev_ckA_at cs 0 pls h j e hj
  rw [Nat.zero_add] at hp
  exact ⟨pl, hp⟩
theorem ev_okm_cut {y : MethodName} {bytes : ByteArray} {cs : List (Option (Instr × Nat × Value))} (a n : Nat) {pls : List (List Nat)} (h : ev_ckA y bytes a ((cs.drop a).take n) pls = true) (j : Nat) (e : Instr × Nat × Value) (h1 : a ≤ j) (h2 : j < a + n) (hj : cs[j]? = some (some e)) : ∃ pl, ev_ck y bytes j e pl = true := by
  obtain ⟨pl, hp⟩ := ev_ckA_at ((cs.drop a).take n) a pls h (j - a) e (by
    rw [List.getElem?_take, if_pos (by omega), List.getElem?_drop, show a + (j - a) = j by omega]
    exact hj)
  rw [show a + (j - a) = j by omega] at hp
  exact ⟨pl, hp⟩

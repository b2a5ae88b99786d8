/-! THE PURE MACHINE: the bytecode of this claim over a heap of fixed shape. A state is (top, r, I, A): the cells from 1000 up to top are made;
r: so many of the references of ev_refs are laid into their fields; I x k: what the int field k of cell x holds; A x j: what stands at j in array x. Below 1000 lie the cells that were there before. -/
abbrev ev_M : Type := Nat × Nat × (Nat → Nat → Int32) × (Nat → Nat → Int32)
abbrev ev_O : Type := (Nat × List (Option Value) × List Value × ev_M) ⊕ ((Option Value × ev_M) ⊕ (Nat × List Value × List Value))
def ev_upd (f : Nat → Nat → Int32) (a k : Nat) (x : Int32) : Nat → Nat → Int32 := fun b j => if b = a then (if j = k then x else f b j) else f b j
/-- the references that are laid: the first r of them -/
def ev_Rf (r x k : Nat) : Bool := decide ((x, k) ∈ ev_refs.take r)
def ev_sh (x : Nat) : Option ((Nat × List (Option Nat)) ⊕ (Nat × Nat)) := if x < 1000 then none else ev_shs[x - 1000]?
/-- an array that was there before: its kind (0 int, 1 char, 2 boolean, 3 byte, 4 references), its length, what it holds -/
def ev_oa (σ : ev_M) (x : Nat) : Option (Nat × Nat × (Nat → Value)) :=
  if x = 502 then some (0, (σ.2.2.1 502 0).toNatClampNeg, fun j => .int (σ.2.2.2 502 j))
  else if x = 500 then some (1, 26, fun j => .int (ev_figs.getD j 0))
  else if x = 501 then some (4, 54, fun j => .ref (400 + j))
  else if 200 ≤ x ∧ x < 310 then some (3, (ev_txs.getD (x - 200) []).length, fun j => .int ((ev_txs.getD (x - 200) []).getD j 0))
  else none
/-- a field of an object that was there before, by the field's number -/
def ev_of (x n : Nat) : Option Value :=
  if x < 110 then (if n = 1280 then some (.ref (200 + x)) else if n = 1281 then some (.int 0) else none)
  else if 400 ≤ x ∧ x < 454 then
    match ev_ens[x - 400]? with
    | some q => if n = 1344 then some (.int q.1) else if n = 1345 then some (.int q.2.1) else if n = 1346 then some (.ref q.2.2.1) else if n = 1347 then some (.ref q.2.2.2) else none
    | none => none
  else none
def ev_mt (m : Nat) : Nat × Nat × Nat × Nat := ev_mts.getD m (0, 0, 0, 0)
def ev_at (m k : Nat) : Option (Instr × Nat × Value) := ((ev_codes.getD m [])[k]?).join
def ev_i {α : Type} (st : List Value) (f : Int32 → List Value → Option α) : Option α := match st with
  | .int x :: r => f x r
  | _ => none
def ev_ii {α : Type} (st : List Value) (f : Int32 → Int32 → List Value → Option α) : Option α := match st with
  | .int y :: .int x :: r => f x y r
  | _ => none
def ev_l {α : Type} (st : List Value) (f : Int64 → List Value → Option α) : Option α := match st with
  | .long x :: r => f x r
  | _ => none
def ev_ll {α : Type} (st : List Value) (f : Int64 → Int64 → List Value → Option α) : Option α := match st with
  | .long y :: .long x :: r => f x y r
  | _ => none
def ev_li {α : Type} (st : List Value) (f : Int64 → Int32 → List Value → Option α) : Option α := match st with
  | .int y :: .long x :: r => f x y r
  | _ => none
def ev_r {α : Type} (st : List Value) (f : Nat → List Value → Option α) : Option α := match st with
  | .ref x :: r => f x r
  | _ => none
def ev_ri {α : Type} (st : List Value) (f : Nat → Int32 → List Value → Option α) : Option α := match st with
  | .int i :: .ref a :: r => f a i r
  | _ => none
def ev_rii {α : Type} (st : List Value) (f : Nat → Int32 → Int32 → List Value → Option α) : Option α := match st with
  | .int x :: .int i :: .ref a :: r => f a i x r
  | _ => none
def ev_rv {α : Type} (st : List Value) (f : Nat → Value → List Value → Option α) : Option α := match st with
  | v :: .ref a :: r => f a v r
  | _ => none
def ev_1 {α : Type} (st : List Value) (f : Value → List Value → Option α) : Option α := match st with
  | .int x :: r => f (.int x) r
  | .ref x :: r => f (.ref x) r
  | .null :: r => f .null r
  | _ => none
/-- a reference or null -/
def ev_q {α : Type} (st : List Value) (f : Option Nat → List Value → Option α) : Option α := match st with
  | .ref x :: r => f (some x) r
  | .null :: r => f none r
  | _ => none
def ev_next (k : Nat) (ls : List (Option Value)) (st : List Value) (σ : ev_M) : Option ev_O := some (.inl (k, ls, st, σ))
def ev_holds (c : Jvm.ClassFile.Cond) (x y : Int32) : Bool := match c with
  | .eq => decide (x = y)
  | .ne => decide (¬ x = y)
  | .lt => decide (x < y)
  | .ge => decide (y ≤ x)
  | .gt => decide (y < x)
  | .le => decide (x ≤ y)
def ev_tg (lk : Value) (f : Nat → Option ev_O) : Option ev_O := match lk with
  | .ref t => f t
  | _ => none
def ev_sw (k : Nat) (d lo hi : Int) (offs : Array Int) (x : Int32) : Option Nat :=
  if x.toInt < lo ∨ hi < x.toInt then (if 0 ≤ (k : Int) + d then some ((k : Int) + d).toNat else none)
  else match offs.toList[(x.toInt - lo).toNat]? with
    | some o => if 0 ≤ (k : Int) + o then some ((k : Int) + o).toNat else none
    | none => none
/-- a long or double stands there -/
def ev_two (o : Option (Option Value)) : Bool := match o with
  | some (some (.long _)) => true
  | some (some (.double _)) => true
  | _ => false
/-- the locals with v at i: a long just ahead of i would lose its second half -/
def ev_set (ls : List (Option Value)) (i : Nat) (v : Value) : Option (List (Option Value)) :=
  if i < ls.length ∧ (i = 0 ∨ ev_two ls[i - 1]? = false) then some (ls.set i (some v)) else none
def ev_setL (ls : List (Option Value)) (i : Nat) (v : Int64) : Option (List (Option Value)) :=
  if i + 1 < ls.length ∧ (i = 0 ∨ ev_two ls[i - 1]? = false) then some ((ls.set i (some (.long v))).set (i + 1) none) else none
def ev_ldi (ls : List (Option Value)) (i : Nat) (f : Value → Option ev_O) : Option ev_O := match ls[i]? with
  | some (some (.int x)) => f (.int x)
  | _ => none
def ev_lda (ls : List (Option Value)) (i : Nat) (f : Value → Option ev_O) : Option ev_O := match ls[i]? with
  | some (some (.ref x)) => f (.ref x)
  | some (some .null) => f .null
  | _ => none
def ev_ldl (ls : List (Option Value)) (i : Nat) (f : Value → Option ev_O) : Option ev_O := match ls[i]? with
  | some (some (.long x)) => f (.long x)
  | _ => none
/-- an array's length and kind -/
def ev_len (σ : ev_M) (x : Nat) : Option (Nat × Nat) :=
  if x < 1000 then (match ev_oa σ x with
    | some q => some (q.1, q.2.1)
    | none => none)
  else if x < σ.1 then (match ev_sh x with
    | some (.inr q) => some q
    | _ => none)
  else none
def ev_get (σ : ev_M) (x j : Nat) : Value := if x < 1000 then (match ev_oa σ x with
    | some q => q.2.2 j
    | none => .null) else .int (σ.2.2.2 x j)
/-- what stands at i of array x, of a kind -/
def ev_ald (σ : ev_M) (t : Nat) (x : Nat) (i : Int32) (f : Value → Option ev_O) : Option ev_O := match ev_len σ x with
  | some (t', n) => if t' = t then (if i < 0 ∨ n ≤ i.toNatClampNeg then none else f (ev_get σ x i.toNatClampNeg)) else none
  | none => none
def ev_ast (σ : ev_M) (t : Nat) (x : Nat) (i : Int32) (v : Int32) (f : ev_M → Option ev_O) : Option ev_O :=
  if x < 1000 then none else match ev_len σ x with
  | some (t', n) => if t' = t then (if i < 0 ∨ n ≤ i.toNatClampNeg then none else f (σ.1, σ.2.1, σ.2.2.1, ev_upd σ.2.2.2 x i.toNatClampNeg v)) else none
  | none => none
def ev_getf (σ : ev_M) (x n : Nat) : Option Value :=
  if x < 1000 then ev_of x n
  else if x < σ.1 then match ev_sh x with
    | some (.inl q) => if q.1 = n / 64 then (match q.2[n % 64]? with
      | some none => some (.int (σ.2.2.1 x (n % 64)))
      | some (some b) => if σ.2.1 = ev_nr then some (.ref b) else none
      | none => none) else none
    | _ => none
  else none
def ev_putf (σ : ev_M) (x n : Nat) (v : Value) : Option ev_M :=
  if x < 1000 then none
  else if x < σ.1 then match ev_sh x with
    | some (.inl q) => if q.1 = n / 64 then (match q.2[n % 64]?, v with
      | some none, .int y => some (σ.1, σ.2.1, ev_upd σ.2.2.1 x (n % 64) y, σ.2.2.2)
      | some (some b), .ref y => if y = b ∧ ev_refs[σ.2.1]? = some (x, n % 64) then some (σ.1, σ.2.1 + 1, σ.2.2.1, σ.2.2.2) else none
      | _, _ => none) else none
    | _ => none
  else none
def ev_fit (r : Nat) (x : Int32) : Bool := match r with
  | 1 => true
  | 2 => decide (x = 0) || decide (x = 1)
  | 3 => decide (0 ≤ x) && decide (x ≤ 65535)
  | 6 => decide (x = 0)
  | _ => false
def ev_recv (σ : ev_M) (x mc : Nat) : Bool :=
  if x < 1000 then decide (x < 110) && decide (mc = 99)
  else decide (x < σ.1) && (match ev_sh x with
    | some (.inl q) => decide (q.1 = mc)
    | _ => false)
def ev_cat (st : List Value) : Nat := (st.map fun v => v.category).sum
def ev_nd (v : Value) : Bool := match v with
  | .double _ => false
  | _ => true
/-- the arguments as locals -/
def ev_ent : List Value → List (Option Value)
  | [] => []
  | .long x :: r => some (.long x) :: none :: ev_ent r
  | v :: r => some v :: ev_ent r
/-- a call: the method, its arguments (the object first), what stays on the stack -/
def ev_call (σ : ev_M) (lk : Value) (st : List Value) (obj virt : Bool) : Option ev_O := match lk with
  | .ref m0 =>
    let m := m0 % 100000
    let q := ev_mt m
    let n := if obj then q.2.1 + 1 else q.2.1
    let as := (st.take n).reverse
    if as.length = n ∧ ev_cat (st.drop n) ≤ 8 ∧ (ev_ent as).length ≤ q.1 ∧ as.all ev_nd = true then
      (if virt then (match as with
        | .ref x :: _ => if ev_recv σ x q.2.2.2 then some (.inr (.inr (m, as, st.drop n))) else none
        | _ => none)
       else if obj then (match as with
        | .ref x :: _ => if 1000 ≤ x then some (.inr (.inr (m, as, st.drop n))) else none
        | _ => none)
       else some (.inr (.inr (m, as, st.drop n))))
    else none
  | _ => none
def ev_tag (t : ArrayType) : Nat := match t with
  | .int => 0
  | .char => 1
  | .boolean => 2
  | _ => 9
/-- System.arraycopy over int arrays that were made here, when all cells are made -/
def ev_copy (σ : ev_M) (st : List Value) (f : ev_M → List Value → Option ev_O) : Option ev_O := match st with
  | .int n :: .int dp :: .ref b :: .int sp :: .ref a :: r =>
    if a < 1000 ∨ b < 1000 ∨ 8 < ev_cat r then none else match ev_len σ a, ev_len σ b with
    | some (0, na), some (0, nb) => if sp < 0 ∨ dp < 0 ∨ n < 0 ∨ na < sp.toNatClampNeg + n.toNatClampNeg ∨ nb < dp.toNatClampNeg + n.toNatClampNeg then none
      else f (σ.1, σ.2.1, σ.2.2.1, fun x j => if x = b then va_cpy (σ.2.2.2 a) (σ.2.2.2 b) sp.toNatClampNeg dp.toNatClampNeg n.toNatClampNeg j else σ.2.2.2 x j) r
    | _, _ => none
  | _ => none
def ev_step (m k : Nat) (e : Instr × Nat × Value) (ls : List (Option Value)) (st : List Value) (σ : ev_M) : Option ev_O :=
  match e.1 with
  | .iconst n => ev_next (k + e.2.1) ls (.int (Int32.ofInt n) :: st) σ
  | .bipush n => ev_next (k + e.2.1) ls (.int (Int8.ofInt n).toInt32 :: st) σ
  | .sipush n => ev_next (k + e.2.1) ls (.int (Int16.ofInt n).toInt32 :: st) σ
  | .lconst n => ev_next (k + e.2.1) ls (.long (Int64.ofNat (n : Nat)) :: st) σ
  | .aconst_null => ev_next (k + e.2.1) ls (.null :: st) σ
  | .ldc _ => ev_next (k + e.2.1) ls (e.2.2 :: st) σ
  | .ldc_w _ => ev_next (k + e.2.1) ls (e.2.2 :: st) σ
  | .ldc2_w _ => ev_next (k + e.2.1) ls (e.2.2 :: st) σ
  | .getstatic _ => ev_next (k + e.2.1) ls (e.2.2 :: st) σ
  | .iload_n n => ev_ldi ls n fun v => ev_next (k + e.2.1) ls (v :: st) σ
  | .iload n => ev_ldi ls n fun v => ev_next (k + e.2.1) ls (v :: st) σ
  | .aload_n n => ev_lda ls n fun v => ev_next (k + e.2.1) ls (v :: st) σ
  | .aload n => ev_lda ls n fun v => ev_next (k + e.2.1) ls (v :: st) σ
  | .lload_n n => ev_ldl ls n fun v => ev_next (k + e.2.1) ls (v :: st) σ
  | .lload n => ev_ldl ls n fun v => ev_next (k + e.2.1) ls (v :: st) σ
  | .istore_n n => ev_i st fun x r => (ev_set ls n (.int x)).bind fun ls' => ev_next (k + e.2.1) ls' r σ
  | .istore n => ev_i st fun x r => (ev_set ls n (.int x)).bind fun ls' => ev_next (k + e.2.1) ls' r σ
  | .astore_n n => ev_q st fun x r => (ev_set ls n (va_rf x)).bind fun ls' => ev_next (k + e.2.1) ls' r σ
  | .astore n => ev_q st fun x r => (ev_set ls n (va_rf x)).bind fun ls' => ev_next (k + e.2.1) ls' r σ
  | .lstore_n n => ev_l st fun x r => (ev_setL ls n x).bind fun ls' => ev_next (k + e.2.1) ls' r σ
  | .lstore n => ev_l st fun x r => (ev_setL ls n x).bind fun ls' => ev_next (k + e.2.1) ls' r σ
  | .iinc n c => (match ls[n]? with
    | some (some (.int x)) => (ev_set ls n (.int (x + Int32.ofInt c))).bind fun ls' => ev_next (k + e.2.1) ls' st σ
    | _ => none)
  | .iadd => ev_ii st fun x y r => ev_next (k + e.2.1) ls (.int (x + y) :: r) σ
  | .isub => ev_ii st fun x y r => ev_next (k + e.2.1) ls (.int (x - y) :: r) σ
  | .imul => ev_ii st fun x y r => ev_next (k + e.2.1) ls (.int (x * y) :: r) σ
  | .iand => ev_ii st fun x y r => ev_next (k + e.2.1) ls (.int (x &&& y) :: r) σ
  | .ior => ev_ii st fun x y r => ev_next (k + e.2.1) ls (.int (x ||| y) :: r) σ
  | .ixor => ev_ii st fun x y r => ev_next (k + e.2.1) ls (.int (x ^^^ y) :: r) σ
  | .ishl => ev_ii st fun x y r => ev_next (k + e.2.1) ls (.int (x <<< (y &&& 31)) :: r) σ
  | .ishr => ev_ii st fun x y r => ev_next (k + e.2.1) ls (.int (x >>> (y &&& 31)) :: r) σ
  | .iushr => ev_ii st fun x y r => ev_next (k + e.2.1) ls (.int (x.toUInt32 >>> (y.toUInt32 &&& Int32.toUInt32 31)).toInt32 :: r) σ
  | .i2c => ev_i st fun x r => ev_next (k + e.2.1) ls (.int (x.toUInt32 % 65536).toInt32 :: r) σ
  | .l2i => ev_l st fun x r => ev_next (k + e.2.1) ls (.int x.toInt32 :: r) σ
  | .land => ev_ll st fun x y r => ev_next (k + e.2.1) ls (.long (x &&& y) :: r) σ
  | .lcmp => ev_ll st fun x y r => ev_next (k + e.2.1) ls (.int (lg_cmp x y) :: r) σ
  | .lshr => ev_li st fun x y r => ev_next (k + e.2.1) ls (.long (x >>> (y.toInt64 &&& 63)) :: r) σ
  | .dup => ev_1 st fun v r => ev_next (k + e.2.1) ls (v :: v :: r) σ
  | .pop => ev_1 st fun _ r => ev_next (k + e.2.1) ls r σ
  | .ifCond c _ => ev_i st fun x r => ev_tg e.2.2 fun t => ev_next (if ev_holds c x 0 = true then t else k + e.2.1) ls r σ
  | .if_icmp c _ => ev_ii st fun x y r => ev_tg e.2.2 fun t => ev_next (if ev_holds c x y = true then t else k + e.2.1) ls r σ
  | .goto _ => ev_tg e.2.2 fun t => ev_next t ls st σ
  | .ifnull _ => ev_q st fun x r => ev_tg e.2.2 fun t => (match x with
    | none => ev_next t ls r σ
    | some y => if 400 ≤ y ∧ y < 454 then ev_next (k + e.2.1) ls r σ else none)
  | .ifnonnull _ => ev_q st fun x r => ev_tg e.2.2 fun t => (match x with
    | none => ev_next (k + e.2.1) ls r σ
    | some y => if 400 ≤ y ∧ y < 454 then ev_next t ls r σ else none)
  | .if_acmp c _ => ev_q st fun y r0 => ev_q r0 fun x r => ev_tg e.2.2 fun t =>
    if (x.all fun z => decide (400 ≤ z) && decide (z < 454)) && (y.all fun z => decide (400 ≤ z) && decide (z < 454)) then
      (match c with
      | .eq => ev_next (if x = y then t else k + e.2.1) ls r σ
      | .ne => ev_next (if x = y then k + e.2.1 else t) ls r σ)
    else none
  | .tableswitch d lo hi offs => ev_i st fun x r => (ev_sw k d lo hi offs x).bind fun t => ev_next t ls r σ
  | .arraylength => ev_r st fun x r => (match ev_len σ x with
    | some q => ev_next (k + e.2.1) ls (.int (Int32.ofNat q.2) :: r) σ
    | none => none)
  | .iaload => ev_ri st fun a i r => ev_ald σ 0 a i fun v => ev_next (k + e.2.1) ls (v :: r) σ
  | .caload => ev_ri st fun a i r => ev_ald σ 1 a i fun v => ev_next (k + e.2.1) ls (v :: r) σ
  | .baload => ev_ri st fun a i r => ev_ald σ (if a < 1000 then 3 else 2) a i fun v => ev_next (k + e.2.1) ls (v :: r) σ
  | .aaload => ev_ri st fun a i r => ev_ald σ 4 a i fun v => ev_next (k + e.2.1) ls (v :: r) σ
  | .iastore => ev_rii st fun a i x r => ev_ast σ 0 a i x fun σ' => ev_next (k + e.2.1) ls r σ'
  | .castore => ev_rii st fun a i x r => ev_ast σ 1 a i (vp_nar .char x) fun σ' => ev_next (k + e.2.1) ls r σ'
  | .bastore => ev_rii st fun a i x r => ev_ast σ 2 a i (vp_nar .boolean x) fun σ' => ev_next (k + e.2.1) ls r σ'
  | .getfield _ => ev_r st fun x r => (match e.2.2 with
    | .ref n => (match ev_getf σ x (n % 100000) with
      | some v => ev_next (k + e.2.1) ls (v :: r) σ
      | none => none)
    | _ => none)
  | .putfield _ => ev_rv st fun x v r => (match e.2.2 with
    | .ref n => (match ev_putf σ x n v with
      | some σ' => ev_next (k + e.2.1) ls r σ'
      | none => none)
    | _ => none)
  | .new _ => (match e.2.2, ev_sh σ.1 with
    | .ref c, some (.inl q) => if q.1 = c then ev_next (k + e.2.1) ls (.ref σ.1 :: st) (σ.1 + 1, σ.2) else none
    | _, _ => none)
  | .newarray t => ev_i st fun x r => (match ev_sh σ.1 with
    | some (.inr q) => if q.1 = ev_tag t ∧ ¬ x < 0 ∧ x.toNatClampNeg = q.2 then ev_next (k + e.2.1) ls (.ref σ.1 :: r) (σ.1 + 1, σ.2) else none
    | _ => none)
  | .invokespecial _ => if e.2.2 = .null then (ev_r st fun x r => if 1000 ≤ x ∧ ev_cat r ≤ 8 then ev_next (k + e.2.1) ls r σ else none) else ev_call σ e.2.2 st true false
  | .invokestatic _ => if e.2.2 = .null then ev_copy σ st fun σ' r => ev_next (k + e.2.1) ls r σ' else ev_call σ e.2.2 st false false
  | .invokevirtual _ => ev_call σ e.2.2 st true true
  | .ireturn => (match st with
    | [.int x] => if ev_fit (ev_mt m).2.2.1 x = true then some (.inr (.inl (some (.int x), σ))) else none
    | _ => none)
  | .lreturn => (match st with
    | [.long x] => if (ev_mt m).2.2.1 = 5 then some (.inr (.inl (some (.long x), σ))) else none
    | _ => none)
  | .areturn => (match st with
    | [.ref x] => if (ev_mt m).2.2.1 = 4 then some (.inr (.inl (some (.ref x), σ))) else none
    | [.null] => if (ev_mt m).2.2.1 = 4 then some (.inr (.inl (some .null, σ))) else none
    | _ => none)
  | .return_ => (match st with
    | [] => if (ev_mt m).2.2.1 = 0 then some (.inr (.inl (none, σ))) else none
    | _ => none)
  | _ => none
def ev_entry (m : Nat) (as : List Value) : List (Option Value) := ev_ent as ++ List.replicate ((ev_mt m).1 - (ev_ent as).length) none
def ev_run : Nat → Nat → Nat → Nat → List (Option Value) → List Value → ev_M → Option (Option Value × ev_M)
  | 0, _, _, _, _, _, _ => none
  | n + 1, d, m, k, ls, st, σ => match ev_at m k with
    | none => none
    | some e => match ev_step m k e ls st σ with
      | none => none
      | some (.inl q) => ev_run n d m q.1 q.2.1 q.2.2.1 q.2.2.2
      | some (.inr (.inl q)) => some q
      | some (.inr (.inr q)) => match d with
        | 0 => none
        | d' + 1 => match ev_run n d' q.1 0 (ev_entry q.1 q.2.1) [] σ with
          | none => none
          | some w => ev_run n d m (k + e.2.1) ls (w.1.toList ++ q.2.2) w.2

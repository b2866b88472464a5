/-! ===== THE SMALL MACHINE: memory as functions (cell number, slot), no heap, no tables ===== -/
abbrev am_M : Type := (Nat → Nat → Int32) × (Nat → Nat → Int64) × (Nat → Nat → UInt64) × (Nat → Nat → Option Nat)
def am_wI (m : am_M) (k j : Nat) (x : Int32) : am_M := (fun a b => bif a == k && b == j then x else m.1 a b, m.2)
def am_wL (m : am_M) (k j : Nat) (x : Int64) : am_M := (m.1, fun a b => bif a == k && b == j then x else m.2.1 a b, m.2.2)
def am_wD (m : am_M) (k j : Nat) (x : UInt64) : am_M := (m.1, m.2.1, fun a b => bif a == k && b == j then x else m.2.2.1 a b, m.2.2.2)
def am_wR (m : am_M) (k j : Nat) (x : Option Nat) : am_M := (m.1, m.2.1, m.2.2.1, fun a b => bif a == k && b == j then x else m.2.2.2 a b)
/-- a cell: an object (number of its class, the kinds of its slots) or an array (kind, length); kinds: 0 int, 1 long, 2 double, 3 reference, 4 boolean -/
abbrev am_S1 : Type := (Nat × List Nat) ⊕ (Nat × Nat)
abbrev am_Sh : Type := List am_S1
/-- a frame: pc, locals, stack, memory; a reference is a cell's number -/
abbrev am_C : Type := Nat × List (Option Value) × List Value × am_M
/-- an instruction, its length, what its numbers mean -/
abbrev am_Q : Type := Instr × Nat × List Nat
def am_rv (m : am_M) (a k : Nat) : Nat → Value
  | 0 => .int (m.1 a k)
  | 1 => .long (m.2.1 a k)
  | 2 => .double (m.2.2.1 a k)
  | 3 => va_rf (m.2.2.2 a k)
  | _ => .int (m.1 a k)
def am_wv (m : am_M) (a k : Nat) (ty : Nat) (v : Value) : Option am_M :=
  match ty, v with
  | 0, .int x => some (am_wI m a k x)
  | 1, .long x => some (am_wL m a k x)
  | 2, .double x => some (am_wD m a k x)
  | 3, .ref b => some (am_wR m a k (some b))
  | 3, .null => some (am_wR m a k none)
  | 4, .int x => bif x == 0 || x == 1 then some (am_wI m a k x) else none
  | _, _ => none
def am_inb (i : Int32) (n : Nat) : Bool := !(decide (i < 0)) && decide (i.toNatClampNeg < n)
def am_kill (ls : List (Option Value)) : Nat → List (Option Value)
  | 0 => ls
  | j + 1 => match ls[j]? with
    | some (some v) => bif v.category == 2 then ls.set j none else ls
    | _ => ls
def am_st1 (ls : List (Option Value)) (i : Nat) (v : Value) : Option (List (Option Value)) := bif Nat.ble (i + 1) ls.length then some ((am_kill ls i).set i (some v)) else none
def am_st2 (ls : List (Option Value)) (i : Nat) (v : Value) : Option (List (Option Value)) := bif Nat.ble (i + 2) ls.length then some (((am_kill ls i).set i (some v)).set (i + 1) none) else none
def am_is (k : Nat) (v : Value) : Bool := match k, v with
  | 0, .int _ => true
  | 1, .long _ => true
  | 2, .double _ => true
  | 3, .ref _ => true
  | 3, .null => true
  | _, _ => false
def am_pu (c : am_C) (len : Nat) (v : Value) : Option am_C := some (c.1 + len, c.2.1, v :: c.2.2.1, c.2.2.2)
def am_ii (c : am_C) (f : Int32 → Int32 → Int32) : Option am_C := match c.2.2.1 with
  | .int y :: .int x :: r => some (c.1 + 1, c.2.1, .int (f x y) :: r, c.2.2.2)
  | _ => none
def am_iid (c : am_C) (f : Int32 → Int32 → Int32) : Option am_C := match c.2.2.1 with
  | .int y :: .int x :: r => bif y == 0 then none else some (c.1 + 1, c.2.1, .int (f x y) :: r, c.2.2.2)
  | _ => none
def am_i1 (c : am_C) (f : Int32 → Value) : Option am_C := match c.2.2.1 with
  | .int x :: r => some (c.1 + 1, c.2.1, f x :: r, c.2.2.2)
  | _ => none
def am_ll (c : am_C) (f : Int64 → Int64 → Int64) : Option am_C := match c.2.2.1 with
  | .long y :: .long x :: r => some (c.1 + 1, c.2.1, .long (f x y) :: r, c.2.2.2)
  | _ => none
def am_lld (c : am_C) (f : Int64 → Int64 → Int64) : Option am_C := match c.2.2.1 with
  | .long y :: .long x :: r => bif y == 0 then none else some (c.1 + 1, c.2.1, .long (f x y) :: r, c.2.2.2)
  | _ => none
def am_li (c : am_C) (f : Int64 → Int32 → Int64) : Option am_C := match c.2.2.1 with
  | .int y :: .long x :: r => some (c.1 + 1, c.2.1, .long (f x y) :: r, c.2.2.2)
  | _ => none
def am_l1 (c : am_C) (f : Int64 → Value) : Option am_C := match c.2.2.1 with
  | .long x :: r => some (c.1 + 1, c.2.1, f x :: r, c.2.2.2)
  | _ => none
def am_lc (c : am_C) : Option am_C := match c.2.2.1 with
  | .long y :: .long x :: r => some (c.1 + 1, c.2.1, .int (lg_cmp x y) :: r, c.2.2.2)
  | _ => none
/-- no number is drawn: the answer must be one -/
def am_nn (r : UInt64) : Bool := decide (r &&& 0x7fffffffffffffff ≤ 0x7ff0000000000000)
def am_dd (c : am_C) (f : UInt64 → UInt64 → UInt64) : Option am_C := match c.2.2.1 with
  | .double y :: .double x :: r => bif am_nn (f x y) then some (c.1 + 1, c.2.1, .double (f x y) :: r, c.2.2.2) else none
  | _ => none
def am_d1 (c : am_C) (f : UInt64 → Value) : Option am_C := match c.2.2.1 with
  | .double x :: r => some (c.1 + 1, c.2.1, f x :: r, c.2.2.2)
  | _ => none
def am_dc (c : am_C) (op : CmpOp) : Option am_C := match c.2.2.1 with
  | .double y :: .double x :: r => some (c.1 + 1, c.2.1, .int (Op.cmpValue (FP.dcmp x y) op) :: r, c.2.2.2)
  | _ => none
def am_ld (c : am_C) (len i k : Nat) : Option am_C := match c.2.1[i]? with
  | some (some v) => bif am_is k v then some (c.1 + len, c.2.1, v :: c.2.2.1, c.2.2.2) else none
  | _ => none
def am_so1 (c : am_C) (len i k : Nat) : Option am_C := match c.2.2.1 with
  | v :: r => bif am_is k v then (match am_st1 c.2.1 i v with | some ls => some (c.1 + len, ls, r, c.2.2.2) | none => none) else none
  | _ => none
def am_so2 (c : am_C) (len i k : Nat) : Option am_C := match c.2.2.1 with
  | v :: r => bif am_is k v then (match am_st2 c.2.1 i v with | some ls => some (c.1 + len, ls, r, c.2.2.2) | none => none) else none
  | _ => none
def am_inc (c : am_C) (i : Nat) (n : Int) : Option am_C := match c.2.1[i]? with
  | some (some (.int x)) => (match am_st1 c.2.1 i (.int (x + Int32.ofInt n)) with | some ls => some (c.1 + 3, ls, c.2.2.1, c.2.2.2) | none => none)
  | _ => none
def am_b1 (c : am_C) (f : Int32 → Bool) (t : Nat) : Option am_C := match c.2.2.1 with
  | .int x :: r => some (bif f x then t else c.1 + 3, c.2.1, r, c.2.2.2)
  | _ => none
def am_b2 (c : am_C) (f : Int32 → Int32 → Bool) (t : Nat) : Option am_C := match c.2.2.1 with
  | .int y :: .int x :: r => some (bif f x y then t else c.1 + 3, c.2.1, r, c.2.2.2)
  | _ => none
def am_cond (k : ClassFile.Cond) (x y : Int32) : Bool := match k with
  | .eq => decide (x = y)
  | .ne => decide (x ≠ y)
  | .lt => decide (x < y)
  | .ge => decide (y ≤ x)
  | .gt => decide (y < x)
  | .le => decide (x ≤ y)
def am_al (sh : am_Sh) (c : am_C) (k : Nat) (rd : am_M → Nat → Nat → Value) : Option am_C := match c.2.2.1 with
  | .int i :: .ref a :: r => (match sh[a]? with
    | some (.inr kn) => bif kn.1 == k && am_inb i kn.2 then some (c.1 + 1, c.2.1, rd c.2.2.2 a i.toNatClampNeg :: r, c.2.2.2) else none
    | _ => none)
  | _ => none
def am_as (sh : am_Sh) (c : am_C) (k : Nat) : Option am_C := match c.2.2.1 with
  | v :: .int i :: .ref a :: r => (match sh[a]? with
    | some (.inr kn) => bif kn.1 == k && am_inb i kn.2 then (match am_wv c.2.2.2 a i.toNatClampNeg k v with | some m => some (c.1 + 1, c.2.1, r, m) | none => none) else none
    | _ => none)
  | _ => none
def am_len (sh : am_Sh) (c : am_C) : Option am_C := match c.2.2.1 with
  | .ref a :: r => (match sh[a]? with
    | some (.inr kn) => some (c.1 + 1, c.2.1, .int (Int32.ofNat kn.2) :: r, c.2.2.2)
    | _ => none)
  | _ => none
def am_gf (sh : am_Sh) (c : am_C) (ci k : Nat) : Option am_C := match c.2.2.1 with
  | .ref a :: r => (match sh[a]? with
    | some (.inl o) => bif o.1 == ci then (match o.2[k]? with | some ty => some (c.1 + 3, c.2.1, am_rv c.2.2.2 a k ty :: r, c.2.2.2) | none => none) else none
    | _ => none)
  | _ => none
def am_pf (sh : am_Sh) (c : am_C) (ci k : Nat) : Option am_C := match c.2.2.1 with
  | v :: .ref a :: r => (match sh[a]? with
    | some (.inl o) => bif o.1 == ci then (match o.2[k]? with | some ty => (match am_wv c.2.2.2 a k ty v with | some m => some (c.1 + 3, c.2.1, r, m) | none => none) | none => none) else none
    | _ => none)
  | _ => none
def am_ts (c : am_C) (lo hi : Int) (t : List Nat) : Option am_C := match c.2.2.1 with
  | .int x :: r => (match t with
    | d :: ts => bif decide (x.toInt < lo) || decide (hi < x.toInt) then some (d, c.2.1, r, c.2.2.2) else (match ts[(x.toInt - lo).toNat]? with | some t => some (t, c.2.1, r, c.2.2.2) | none => none)
    | _ => none)
  | _ => none
def am_look : List (Int × Int) → List Nat → Nat → Int → Nat
  | (k, _) :: ps, t :: ts, d, x => bif decide (x = k) then t else am_look ps ts d x
  | _, _, d, _ => d
def am_ls (c : am_C) (ps : List (Int × Int)) (t : List Nat) : Option am_C := match c.2.2.1 with
  | .int x :: r => (match t with
    | d :: ts => some (am_look ps ts d x.toInt, c.2.1, r, c.2.2.2)
    | _ => none)
  | _ => none
def am_dup (c : am_C) : Option am_C := match c.2.2.1 with
  | v :: r => bif v.category == 1 then some (c.1 + 1, c.2.1, v :: v :: r, c.2.2.2) else none
  | _ => none
def am_pop (c : am_C) : Option am_C := match c.2.2.1 with
  | v :: r => bif v.category == 1 then some (c.1 + 1, c.2.1, r, c.2.2.2) else none
  | _ => none
def am_du2 (c : am_C) : Option am_C := match c.2.2.1 with
  | v :: w :: r => bif v.category == 1 && w.category == 1 then some (c.1 + 1, c.2.1, v :: w :: v :: w :: r, c.2.2.2) else none
  | _ => none
def am_hd (q : am_Q) : Nat := q.2.2.headD 0
/-- one instruction that is neither a call nor a return -/
def am_step (sh : am_Sh) (q : am_Q) (c : am_C) : Option am_C := match q.1 with
  | .iconst n => am_pu c 1 (.int (Int32.ofInt n))
  | .bipush n => am_pu c 2 (.int (Int8.ofInt n).toInt32)
  | .sipush n => am_pu c 3 (.int (Int16.ofInt n).toInt32)
  | .lconst n => am_pu c 1 (.long (Int64.ofNat (n : Nat)))
  | .dconst n => (match n with | 0 => am_pu c 1 (.double FP.dconst0) | _ => am_pu c 1 (.double FP.dconst1))
  | .ldc _ => am_pu c 2 (.int (Int32.ofNat (am_hd q)))
  | .ldc_w _ => am_pu c 3 (.int (Int32.ofNat (am_hd q)))
  | .ldc2_w _ => (match q.2.2 with
    | 0 :: n :: _ => am_pu c 3 (.long (Int64.ofNat n))
    | 1 :: n :: _ => am_pu c 3 (.double (UInt64.ofNat n))
    | _ => none)
  | .iload i => am_ld c 2 i 0
  | .iload_n i => am_ld c 1 i 0
  | .lload i => am_ld c 2 i 1
  | .lload_n i => am_ld c 1 i 1
  | .dload i => am_ld c 2 i 2
  | .dload_n i => am_ld c 1 i 2
  | .aload i => am_ld c 2 i 3
  | .aload_n i => am_ld c 1 i 3
  | .istore i => am_so1 c 2 i 0
  | .istore_n i => am_so1 c 1 i 0
  | .astore i => am_so1 c 2 i 3
  | .astore_n i => am_so1 c 1 i 3
  | .lstore i => am_so2 c 2 i 1
  | .lstore_n i => am_so2 c 1 i 1
  | .dstore i => am_so2 c 2 i 2
  | .dstore_n i => am_so2 c 1 i 2
  | .iinc i n => am_inc c i n
  | .iadd => am_ii c (fun x y => x + y)
  | .isub => am_ii c (fun x y => x - y)
  | .imul => am_ii c (fun x y => x * y)
  | .iand => am_ii c (fun x y => x &&& y)
  | .ior => am_ii c (fun x y => x ||| y)
  | .ishl => am_ii c (fun x y => x <<< (y &&& 31))
  | .ishr => am_ii c (fun x y => x >>> (y &&& 31))
  | .idiv => am_iid c (fun x y => x / y)
  | .irem => am_iid c (fun x y => x - x / y * y)
  | .ineg => am_i1 c (fun x => .int (-x))
  | .i2l => am_i1 c (fun x => .long x.toInt64)
  | .i2d => am_i1 c (fun x => .double (FP.i2d x))
  | .ladd => am_ll c (fun x y => x + y)
  | .lsub => am_ll c (fun x y => x - y)
  | .lmul => am_ll c (fun x y => x * y)
  | .land => am_ll c (fun x y => x &&& y)
  | .lor => am_ll c (fun x y => x ||| y)
  | .lxor => am_ll c (fun x y => x ^^^ y)
  | .ldiv => am_lld c (fun x y => x / y)
  | .lrem => am_lld c (fun x y => x - x / y * y)
  | .lneg => am_l1 c (fun x => .long (-x))
  | .lshl => am_li c (fun x y => x <<< (y.toInt64 &&& 63))
  | .lshr => am_li c (fun x y => x >>> (y.toInt64 &&& 63))
  | .l2d => am_l1 c (fun x => .double (FP.l2d x))
  | .l2i => am_l1 c (fun x => .int x.toInt32)
  | .lcmp => am_lc c
  | .dadd => am_dd c FP.dadd
  | .dsub => am_dd c FP.dsub
  | .dmul => am_dd c FP.dmul
  | .ddiv => am_dd c FP.ddiv
  | .dneg => am_d1 c (fun x => .double (FP.dneg x))
  | .d2l => am_d1 c (fun x => .long (FP.d2l x))
  | .dcmp op => am_dc c op
  | .dup => am_dup c
  | .pop => am_pop c
  | .dup2 => am_du2 c
  | .ifCond k _ => am_b1 c (fun x => am_cond k x 0) (am_hd q)
  | .if_icmp k _ => am_b2 c (am_cond k) (am_hd q)
  | .goto _ => some (am_hd q, c.2.1, c.2.2.1, c.2.2.2)
  | .tableswitch _ lo hi _ => am_ts c lo hi q.2.2
  | .lookupswitch _ ps => am_ls c ps.toList q.2.2
  | .iaload => am_al sh c 0 (fun m a j => .int (m.1 a j))
  | .laload => am_al sh c 1 (fun m a j => .long (m.2.1 a j))
  | .daload => am_al sh c 2 (fun m a j => .double (m.2.2.1 a j))
  | .baload => am_al sh c 4 (fun m a j => .int (m.1 a j))
  | .iastore => am_as sh c 0
  | .lastore => am_as sh c 1
  | .dastore => am_as sh c 2
  | .bastore => am_as sh c 4
  | .arraylength => am_len sh c
  | .getfield _ => (match q.2.2 with | ci :: k :: _ => am_gf sh c ci k | _ => none)
  | .putfield _ => (match q.2.2 with | ci :: k :: _ => am_pf sh c ci k | _ => none)
  | _ => none
abbrev am_R : Type := Option Value × am_M
def am_rok (ret : Nat) (x : Int32) : Bool := match ret with
  | 1 => true
  | 2 => x == 0 || x == 1
  | _ => false
def am_rc (sh : am_Sh) (vi ci : Nat) (as : List Value) : Bool := match vi with
  | 0 => true
  | _ => (match as with
    | .ref a :: _ => (match sh[a]? with | some (.inl o) => o.1 == ci | _ => false)
    | _ => false)
/-- a call: what its numbers say: callee, how many values it takes, 1: the first is an object of the class with the next number -/
def am_inv (sh : am_Sh) (call : Nat → List Value → am_M → Option am_R) (q : am_Q) (c : am_C) : Option am_C := match q.2.2 with
  | j :: n :: vi :: ci :: _ =>
    bif Nat.ble n c.2.2.1.length && Nat.ble (((c.2.2.1.drop n).map fun v => v.category).sum) 8 && am_rc sh vi ci (c.2.2.1.take n).reverse then
      (match call j (c.2.2.1.take n).reverse c.2.2.2 with
        | some r => some (c.1 + 3, c.2.1, r.1.toList ++ c.2.2.1.drop n, r.2)
        | none => none)
    else none
  | _ => none
def am_go (Cd : Nat → Option am_Q) (sh : am_Sh) (ret : Nat) (call : Nat → List Value → am_M → Option am_R) : Nat → am_C → Option am_R
  | 0, _ => none
  | n + 1, c => match Cd c.1 with
    | none => none
    | some q => match q.1 with
      | .ireturn => (match c.2.2.1 with | [.int x] => bif am_rok ret x then some (some (.int x), c.2.2.2) else none | _ => none)
      | .lreturn => (match c.2.2.1, ret with | [.long x], 3 => some (some (.long x), c.2.2.2) | _, _ => none)
      | .dreturn => (match c.2.2.1, ret with | [.double x], 4 => some (some (.double x), c.2.2.2) | _, _ => none)
      | .return_ => (match c.2.2.1, ret with | [], 0 => some (none, c.2.2.2) | _, _ => none)
      | .invokevirtual _ => (match am_inv sh call q c with | some c' => am_go Cd sh ret call n c' | none => none)
      | .invokestatic _ => (match am_inv sh call q c with | some c' => am_go Cd sh ret call n c' | none => none)
      | _ => (match am_step sh q c with | some c' => am_go Cd sh ret call n c' | none => none)
/-- the locals with which a method begins -/
def am_ent : List Value → List (Option Value)
  | [] => []
  | v :: vs => bif v.category == 2 then some v :: none :: am_ent vs else some v :: am_ent vs
def am_loc (n : Nat) (vs : List Value) : List (Option Value) := am_ent vs ++ List.replicate (n - (am_ent vs).length) none
/-- a method: its code by pc, how many locals, what it returns (0 nothing, 1 int, 2 boolean, 3 long, 4 double) -/
abbrev am_Y : Type := (Nat → Option am_Q) × Nat × Nat
def am_ex (Ys : Nat → Option am_Y) (ext : Nat → List Value → am_M → Option am_R) (sh : am_Sh) (n : Nat) : Nat → Nat → List Value → am_M → Option am_R
  | 0, _, _, _ => none
  | d + 1, j, as, m => match Ys j with
    | none => ext j as m
    | some y => bif Nat.ble (am_ent as).length y.2.1 then am_go y.1 sh y.2.2 (am_ex Ys ext sh n d) n (0, am_loc y.2.1 as, [], m) else none
/-! ===== what it is in the heap ===== -/
def am_cv (ad : Nat → Nat) : Value → Value
  | .ref k => .ref (ad k)
  | v => v
def am_fv (ad : Nat → Nat) (m : am_M) (k j ty : Nat) : Value := am_cv ad (am_rv m k j ty)
/-- array classes: 0 int, 1 long, 2 double, 4 boolean -/
def am_cell (cy : Nat → ClassId) (ad : Nat → Nat) (m : am_M) (k : Nat) (x : am_S1) : va_E := match x with
  | .inl o => .inr (o.1, (List.range o.2.length).map (fun j => am_fv ad m k j (o.2.getD j 0)))
  | .inr (0, n) => .inl (cy 0, n, .inl (m.1 k))
  | .inr (1, n) => .inl (cy 1, n, .inr (.inl (m.2.1 k)))
  | .inr (2, n) => .inl (cy 2, n, .inr (.inr (.inr (.inl (m.2.2.1 k)))))
  | .inr (_, n) => .inl (cy 4, n, .inl (m.1 k))
def am_W (cy : Nat → ClassId) (ad : Nat → Nat) (sh : am_Sh) (m : am_M) : va_W := (List.range sh.length).map (fun k => (ad k, am_cell cy ad m k (sh.getD k (.inr (0, 0)))))
def am_lv (ad : Nat → Nat) (ls : List (Option Value)) : List (Nat × Value) := (List.range ls.length).filterMap (fun i => match ls[i]? with | some (some v) => some (i, am_cv ad v) | _ => none)
theorem am_cv_cat (ad : Nat → Nat) (v : Value) : (am_cv ad v).category = v.category := by cases v <;> rfl
theorem am_lv_mem {ad : Nat → Nat} {ls : List (Option Value)} {i : Nat} {u : Value} : (i, u) ∈ am_lv ad ls ↔ ∃ v, ls[i]? = some (some v) ∧ u = am_cv ad v := by
  unfold am_lv
  rw [List.mem_filterMap]
  constructor
  · rintro ⟨j, hj, h⟩
    split at h
    · next v hv =>
      cases h
      exact ⟨v, hv, rfl⟩
    · cases h
  · rintro ⟨v, hv, rfl⟩
    refine ⟨i, List.mem_range.mpr (List.getElem?_eq_some_iff.mp hv).1, ?_⟩
    rw [hv]
theorem am_has_sub {ls : Array Slot} {n : Nat} {l l' : List (Nat × Value)} (h : lv_has ls n l) (hs : ∀ q ∈ l', q ∈ l) : lv_has ls n l' := ⟨h.1, h.2.1, fun q hq => h.2.2 q (hs q hq)⟩
theorem am_kill_get {ls : List (Option Value)} {i j : Nat} {v : Value} (h : (am_kill ls i)[j]? = some (some v)) : ls[j]? = some (some v) ∧ ¬ (j + 1 = i ∧ v.category = 2) := by
  cases i with
  | zero => exact ⟨h, fun z => by omega⟩
  | succ i =>
    simp only [am_kill] at h
    split at h
    · next w hw =>
      cases hc : (w.category == 2) with
      | true =>
        rw [hc] at h
        simp only [cond_true] at h
        by_cases hj : j = i
        · subst hj
          rw [List.getElem?_set] at h
          simp at h
        · rw [List.getElem?_set_ne (fun z => hj z.symm)] at h
          exact ⟨h, fun z => hj (by omega)⟩
      | false =>
        rw [hc] at h
        simp only [cond_false] at h
        refine ⟨h, fun z => ?_⟩
        have hj : j = i := by omega
        subst hj
        rw [hw] at h
        cases h
        simp [z.2] at hc
    · next hw =>
      refine ⟨h, fun z => ?_⟩
      have hj : j = i := by omega
      subst hj
      exact hw v h
theorem am_kill_len (ls : List (Option Value)) (i : Nat) : (am_kill ls i).length = ls.length := by
  cases i with
  | zero => rfl
  | succ i =>
    simp only [am_kill]
    split
    · next w hw => cases (w.category == 2) <;> simp
    · rfl
theorem am_st1_has {ad : Nat → Nat} {ls : List (Option Value)} {i n : Nat} {v : Value} {L : Array Slot} {ls' : List (Option Value)} (h : am_st1 ls i v = some ls')
    (hl : lv_has L n ((i, am_cv ad v) :: (am_lv ad ls).filter (fun q => !(q.1 == i) && !(q.1 + 1 == i && q.2.category == 2)))) : lv_has L n (am_lv ad ls') := by
  unfold am_st1 at h
  cases hb : Nat.ble (i + 1) ls.length with
  | false => rw [hb] at h; cases h
  | true =>
    rw [hb] at h
    simp only [cond_true, Option.some.injEq] at h
    subst h
    refine am_has_sub hl fun q hq => ?_
    obtain ⟨k, u⟩ := q
    obtain ⟨w, hw, rfl⟩ := am_lv_mem.mp hq
    by_cases hk : k = i
    · subst hk
      rw [List.getElem?_set] at hw
      simp only [if_true] at hw
      split at hw
      · cases hw
        exact List.mem_cons_self
      · cases hw
    · rw [List.getElem?_set_ne (fun z => hk z.symm)] at hw
      obtain ⟨h1, h2⟩ := am_kill_get hw
      refine List.mem_cons_of_mem _ (List.mem_filter.mpr ⟨am_lv_mem.mpr ⟨w, h1, rfl⟩, ?_⟩)
      simp only [am_cv_cat, Bool.and_eq_true, Bool.not_eq_true', beq_eq_false_iff_ne, ne_eq, Bool.and_eq_false_iff]
      refine ⟨hk, ?_⟩
      by_cases h3 : k + 1 = i
      · exact Or.inr (fun z => h2 ⟨h3, z⟩)
      · exact Or.inl h3
theorem am_st1_len {ls ls' : List (Option Value)} {i : Nat} {v : Value} (h : am_st1 ls i v = some ls') : ls'.length = ls.length ∧ i < ls.length := by
  unfold am_st1 at h
  cases hb : Nat.ble (i + 1) ls.length with
  | false => rw [hb] at h; cases h
  | true =>
    rw [hb] at h
    simp only [cond_true, Option.some.injEq] at h
    subst h
    exact ⟨by simp [am_kill_len], Nat.le_of_ble_eq_true hb⟩
theorem am_st2_has {ad : Nat → Nat} {ls : List (Option Value)} {i n : Nat} {v : Value} {L : Array Slot} {ls' : List (Option Value)} (h : am_st2 ls i v = some ls')
    (hl : lv_has L n ((i, am_cv ad v) :: (am_lv ad ls).filter (fun q => !(q.1 == i) && (!(q.1 == i + 1) && !(q.1 + 1 == i && q.2.category == 2))))) : lv_has L n (am_lv ad ls') := by
  unfold am_st2 at h
  cases hb : Nat.ble (i + 2) ls.length with
  | false => rw [hb] at h; cases h
  | true =>
    rw [hb] at h
    simp only [cond_true, Option.some.injEq] at h
    subst h
    refine am_has_sub hl fun q hq => ?_
    obtain ⟨k, u⟩ := q
    obtain ⟨w, hw, rfl⟩ := am_lv_mem.mp hq
    by_cases hk1 : k = i + 1
    · subst hk1
      rw [List.getElem?_set] at hw
      simp only [if_true] at hw
      split at hw <;> cases hw
    · rw [List.getElem?_set_ne (fun z => hk1 z.symm)] at hw
      by_cases hk : k = i
      · subst hk
        rw [List.getElem?_set] at hw
        simp only [if_true] at hw
        split at hw
        · cases hw
          exact List.mem_cons_self
        · cases hw
      · rw [List.getElem?_set_ne (fun z => hk z.symm)] at hw
        obtain ⟨h1, h2⟩ := am_kill_get hw
        refine List.mem_cons_of_mem _ (List.mem_filter.mpr ⟨am_lv_mem.mpr ⟨w, h1, rfl⟩, ?_⟩)
        simp only [am_cv_cat, Bool.and_eq_true, Bool.not_eq_true', beq_eq_false_iff_ne, ne_eq, Bool.and_eq_false_iff]
        refine ⟨hk, hk1, ?_⟩
        by_cases h3 : k + 1 = i
        · exact Or.inr (fun z => h2 ⟨h3, z⟩)
        · exact Or.inl h3
theorem am_st2_len {ls ls' : List (Option Value)} {i : Nat} {v : Value} (h : am_st2 ls i v = some ls') : ls'.length = ls.length ∧ i + 1 < ls.length := by
  unfold am_st2 at h
  cases hb : Nat.ble (i + 2) ls.length with
  | false => rw [hb] at h; cases h
  | true =>
    rw [hb] at h
    simp only [cond_true, Option.some.injEq] at h
    subst h
    exact ⟨by simp [am_kill_len], Nat.le_of_ble_eq_true hb⟩
theorem am_W_at {cy : Nat → ClassId} {ad : Nat → Nat} {sh : am_Sh} {m : am_M} {k : Nat} {x : am_S1} (h : sh[k]? = some x) : (am_W cy ad sh m)[k]? = some (ad k, am_cell cy ad m k x) := by
  have hl := (List.getElem?_eq_some_iff.mp h).1
  unfold am_W
  rw [List.getElem?_map, List.getElem?_range hl]
  simp [List.getD, h]
theorem am_W_set {cy : Nat → ClassId} {ad : Nat → Nat} {sh : am_Sh} {m m' : am_M} {k : Nat} {x : am_S1} (h : sh[k]? = some x) (ho : ∀ (j : Nat) (y : am_S1), j ≠ k → am_cell cy ad m' j y = am_cell cy ad m j y) :
    (am_W cy ad sh m).set k (ad k, am_cell cy ad m' k x) = am_W cy ad sh m' := by
  apply List.ext_getElem?
  intro i
  by_cases hi : i = k
  · subst hi
    have hl : i < (am_W cy ad sh m).length := by
      have := (List.getElem?_eq_some_iff.mp h).1
      simpa [am_W] using this
    rw [List.getElem?_set_self hl, am_W_at h]
  · rw [List.getElem?_set_ne (fun z => hi z.symm)]
    unfold am_W
    rw [List.getElem?_map, List.getElem?_map]
    cases hr : (List.range sh.length)[i]? with
    | none => rfl
    | some j =>
      have hj : j = i := by
        have := List.getElem?_eq_some_iff.mp hr
        obtain ⟨h1, h2⟩ := this
        simpa using h2.symm
      subst hj
      simp only [Option.map_some]
      rw [ho j _ hi]
theorem am_wI_off {m : am_M} {k j a : Nat} {x : Int32} (h : a ≠ k) : (am_wI m k j x).1 a = m.1 a := by
  funext b
  have h1 : (a == k) = false := by simpa using h
  simp [am_wI, h1]
theorem am_wL_off {m : am_M} {k j a : Nat} {x : Int64} (h : a ≠ k) : (am_wL m k j x).2.1 a = m.2.1 a := by
  funext b
  have h1 : (a == k) = false := by simpa using h
  simp [am_wL, h1]
theorem am_wD_off {m : am_M} {k j a : Nat} {x : UInt64} (h : a ≠ k) : (am_wD m k j x).2.2.1 a = m.2.2.1 a := by
  funext b
  have h1 : (a == k) = false := by simpa using h
  simp [am_wD, h1]
theorem am_wR_off {m : am_M} {k j a : Nat} {x : Option Nat} (h : a ≠ k) : (am_wR m k j x).2.2.2 a = m.2.2.2 a := by
  funext b
  have h1 : (a == k) = false := by simpa using h
  simp [am_wR, h1]
theorem am_rv_congr {m m' : am_M} {a : Nat} (h1 : m'.1 a = m.1 a) (h2 : m'.2.1 a = m.2.1 a) (h3 : m'.2.2.1 a = m.2.2.1 a) (h4 : m'.2.2.2 a = m.2.2.2 a) (k ty : Nat) : am_rv m' a k ty = am_rv m a k ty := by
  unfold am_rv
  split <;> simp [h1, h2, h3, h4]
theorem am_cell_congr {cy : Nat → ClassId} {ad : Nat → Nat} {m m' : am_M} {a : Nat} (h1 : m'.1 a = m.1 a) (h2 : m'.2.1 a = m.2.1 a) (h3 : m'.2.2.1 a = m.2.2.1 a) (h4 : m'.2.2.2 a = m.2.2.2 a) (y : am_S1) : am_cell cy ad m' a y = am_cell cy ad m a y := by
  unfold am_cell
  split <;> simp [h1, h2, h3, am_fv, am_rv_congr h1 h2 h3 h4]
/-- a write changes its own cell alone -/
theorem am_wv_off {cy : Nat → ClassId} {ad : Nat → Nat} {m m' : am_M} {a k ty : Nat} {v : Value} (h : am_wv m a k ty v = some m') (j : Nat) (y : am_S1) (hj : j ≠ a) : am_cell cy ad m' j y = am_cell cy ad m j y := by
  unfold am_wv at h
  split at h
  · cases h; exact am_cell_congr (m := m) (am_wI_off hj) rfl rfl rfl y
  · cases h; exact am_cell_congr (m := m) (m' := am_wL m a k _) rfl (am_wL_off hj) rfl rfl y
  · cases h; exact am_cell_congr (m := m) (m' := am_wD m a k _) rfl rfl (am_wD_off hj) rfl y
  · cases h; exact am_cell_congr (m := m) (m' := am_wR m a k _) rfl rfl rfl (am_wR_off hj) y
  · cases h; exact am_cell_congr (m := m) (m' := am_wR m a k _) rfl rfl rfl (am_wR_off hj) y
  · next x =>
    cases hc : (x == 0 || x == 1) with
    | false => rw [hc] at h; cases h
    | true =>
      rw [hc] at h
      cases h
      exact am_cell_congr (am_wI_off hj) rfl rfl rfl y
  · cases h

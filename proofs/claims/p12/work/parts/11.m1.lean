/-! THE ABSTRACT MACHINE: numbers in numbered cells; 'base' is the address of cell 0, cell k lies at base + k -/
abbrev ab_V : Type := Int32 ⊕ (Int64 ⊕ Nat)
abbrev ab_M : Type := Nat → Nat → Int32
abbrev ab_L : Type := List (Option ab_V)
/-- a cell: an object (its class, and of each field: none, a number, that stands in the memory; some r, a reference), an array of numbers (its type's place, length), an array of references -/
abbrev ab_C : Type := (Nat × List (Option (Option Nat))) ⊕ ((Nat × Nat) ⊕ (Nat × List (Option Nat)))
abbrev ab_Sh : Type := List ab_C
def ab_conc (base : Nat) (v : ab_V) : Value := match v with
  | .inl x => .int x
  | .inr (.inl x) => .long x
  | .inr (.inr q) => .ref (base + q)
def ab_ldI (n : Nat) (ls : ab_L) (i : Nat) (st : List ab_V) : Option (Nat × ab_L × List ab_V) := match ls[i]? with
  | some (some (.inl x)) => some (n, ls, .inl x :: st)
  | _ => none
def ab_ldL (n : Nat) (ls : ab_L) (i : Nat) (st : List ab_V) : Option (Nat × ab_L × List ab_V) := match ls[i]? with
  | some (some (.inr (.inl x))) => some (n, ls, .inr (.inl x) :: st)
  | _ => none
def ab_ldA (n : Nat) (ls : ab_L) (i : Nat) (st : List ab_V) : Option (Nat × ab_L × List ab_V) := match ls[i]? with
  | some (some (.inr (.inr x))) => some (n, ls, .inr (.inr x) :: st)
  | _ => none
def ab_okst (ls : ab_L) (i : Nat) : Bool := match i with
  | 0 => true
  | j + 1 => match ls[j]? with
    | some (some (.inr (.inl _))) => false
    | _ => true
def ab_stI (n : Nat) (ls : ab_L) (i : Nat) (st : List ab_V) : Option (Nat × ab_L × List ab_V) := match st with
  | .inl x :: r => bif Nat.blt i ls.length && ab_okst ls i then some (n, ls.set i (some (.inl x)), r) else none
  | _ => none
def ab_stA (n : Nat) (ls : ab_L) (i : Nat) (st : List ab_V) : Option (Nat × ab_L × List ab_V) := match st with
  | .inr (.inr x) :: r => bif Nat.blt i ls.length && ab_okst ls i then some (n, ls.set i (some (.inr (.inr x))), r) else none
  | _ => none
def ab_stL (n : Nat) (ls : ab_L) (i : Nat) (st : List ab_V) : Option (Nat × ab_L × List ab_V) := match st with
  | .inr (.inl x) :: r => bif Nat.blt (i + 1) ls.length && ab_okst ls i then some (n, (ls.set i (some (.inr (.inl x)))).set (i + 1) none, r) else none
  | _ => none
def ab_lc (ls : ab_L) (st : List ab_V) : Option (Nat × ab_L × List ab_V) := match st with
  | .inr (.inl y) :: .inr (.inl x) :: r => some (1, ls, .inl (lg_cmp x y) :: r)
  | _ => none
def ab_ii (ls : ab_L) (st : List ab_V) (f : Int32 → Int32 → Int32) : Option (Nat × ab_L × List ab_V) := match st with
  | .inl y :: .inl x :: r => some (1, ls, .inl (f x y) :: r)
  | _ => none
def ab_ll (ls : ab_L) (st : List ab_V) (f : Int64 → Int64 → Int64) : Option (Nat × ab_L × List ab_V) := match st with
  | .inr (.inl y) :: .inr (.inl x) :: r => some (1, ls, .inr (.inl (f x y)) :: r)
  | _ => none
def ab_li (ls : ab_L) (st : List ab_V) (f : Int64 → Int32 → Int64) : Option (Nat × ab_L × List ab_V) := match st with
  | .inl y :: .inr (.inl x) :: r => some (1, ls, .inr (.inl (f x y)) :: r)
  | _ => none
def ab_i1 (ls : ab_L) (st : List ab_V) (f : Int32 → ab_V) : Option (Nat × ab_L × List ab_V) := match st with
  | .inl x :: r => some (1, ls, f x :: r)
  | _ => none
def ab_l1 (ls : ab_L) (st : List ab_V) (f : Int64 → ab_V) : Option (Nat × ab_L × List ab_V) := match st with
  | .inr (.inl x) :: r => some (1, ls, f x :: r)
  | _ => none
def ab_c1 (v : ab_V) : Bool := match v with
  | .inr (.inl _) => false
  | _ => true
/-- an instruction that only moves and reckons -/
def ab_pure (i : Jvm.ClassFile.Instr) (ls : ab_L) (st : List ab_V) : Option (Nat × ab_L × List ab_V) := match i with
  | .iload_n k => ab_ldI 1 ls k.val st
  | .iload k => ab_ldI 2 ls k st
  | .lload_n k => ab_ldL 1 ls k.val st
  | .lload k => ab_ldL 2 ls k st
  | .aload_n k => ab_ldA 1 ls k.val st
  | .aload k => ab_ldA 2 ls k st
  | .istore_n k => ab_stI 1 ls k.val st
  | .istore k => ab_stI 2 ls k st
  | .astore_n k => ab_stA 1 ls k.val st
  | .astore k => ab_stA 2 ls k st
  | .lstore k => ab_stL 2 ls k st
  | .lcmp => ab_lc ls st
  | .iadd => ab_ii ls st (fun x y => x + y)
  | .isub => ab_ii ls st (fun x y => x - y)
  | .imul => ab_ii ls st (fun x y => x * y)
  | .iand => ab_ii ls st (fun x y => x &&& y)
  | .ior => ab_ii ls st (fun x y => x ||| y)
  | .ixor => ab_ii ls st (fun x y => x ^^^ y)
  | .ishl => ab_ii ls st (fun x y => x <<< (y &&& 31))
  | .ishr => ab_ii ls st (fun x y => x >>> (y &&& 31))
  | .ineg => ab_i1 ls st (fun x => .inl (-x))
  | .land => ab_ll ls st (fun x y => x &&& y)
  | .lor => ab_ll ls st (fun x y => x ||| y)
  | .lushr => ab_li ls st (fun x y => (x.toUInt64 >>> (y.toInt64.toUInt64 &&& Int64.toUInt64 63)).toInt64)
  | .lshr => ab_li ls st (fun x y => x >>> (y.toInt64 &&& 63))
  | .lshl => ab_li ls st (fun x y => x <<< (y.toInt64 &&& 63))
  | .l2i => ab_l1 ls st (fun x => .inl x.toInt32)
  | .i2l => ab_i1 ls st (fun x => .inr (.inl x.toInt64))
  | .i2c => ab_i1 ls st (fun x => .inl (x.toUInt32 % 65536).toInt32)
  | .dup => (match st with
    | v :: r => bif ab_c1 v then some (1, ls, v :: v :: r) else none
    | _ => none)
  | .pop => (match st with
    | v :: r => bif ab_c1 v then some (1, ls, r) else none
    | _ => none)
  | .dup_x1 => (match st with
    | v :: w :: r => bif ab_c1 v && ab_c1 w then some (1, ls, v :: w :: v :: r) else none
    | _ => none)
  | .dup2 => (match st with
    | v :: w :: r => bif ab_c1 v && ab_c1 w then some (1, ls, v :: w :: v :: w :: r) else none
    | _ => none)
  | _ => none
/-- a constant -/
def ab_cst (i : Jvm.ClassFile.Instr) : Option (Nat × Int32) := match i with
  | .iconst n => some (1, Int32.ofInt n)
  | .bipush n => some (2, (Int8.ofInt n).toInt32)
  | .sipush n => some (3, (Int16.ofInt n).toInt32)
  | _ => none
def ab_z (c : Jvm.ClassFile.Cond) (x : Int32) : Bool := match c with
  | .eq => decide (x = 0)
  | .ne => !decide (x = 0)
  | .lt => decide (x < 0)
  | .ge => decide (0 ≤ x)
  | .gt => decide (0 < x)
  | .le => decide (x ≤ 0)
def ab_cmp (c : Jvm.ClassFile.Cond) (x y : Int32) : Bool := match c with
  | .eq => decide (x = y)
  | .ne => !decide (x = y)
  | .lt => decide (x < y)
  | .ge => decide (y ≤ x)
  | .gt => decide (y < x)
  | .le => decide (x ≤ y)
/-- a branch: does it go, where to, the stack behind it -/
def ab_br (i : Jvm.ClassFile.Instr) (st : List ab_V) : Option (Bool × Int × List ab_V) := match i with
  | .ifCond c off => (match st with
    | .inl x :: r => some (ab_z c x, off, r)
    | _ => none)
  | .if_icmp c off => (match st with
    | .inl y :: .inl x :: r => some (ab_cmp c x y, off, r)
    | _ => none)
  | .goto off => some (true, off, st)
  | _ => none
def ab_fv (base : Nat) (r : Option (Option Nat)) (x : Int32) : Value := match r with
  | none => .int x
  | some none => .null
  | some (some q) => .ref (base + q)
def ab_cell (base : Nat) (ca : Nat → ClassId) (q : ab_C) (f : Nat → Int32) : va_E := match q with
  | .inl (ci, ff) => .inr (ci, ff.mapIdx (fun j r => ab_fv base r (f j)))
  | .inr (.inl (t, n)) => .inl (ca t, n, .inl f)
  | .inr (.inr (t, g)) => .inl (ca t, g.length, .inr (.inr (.inr (.inr (fun j => (g.getD j none).map (fun q => base + q))))))
/-- the world of a memory -/
def ab_w (base : Nat) (ca : Nat → ClassId) (sh : ab_Sh) (σ : ab_M) : va_W := sh.mapIdx (fun k c => (base + k, ab_cell base ca c (σ k)))
def ab_T (ca : Nat → ClassId) (aty : List FieldType) : List (ClassId × FieldType) := aty.mapIdx (fun t ty => (ca t, ty))
def ab_upd (σ : ab_M) (q k : Nat) (x : Int32) : ab_M := fun a b => bif Nat.beq a q && Nat.beq b k then x else σ a b
/-- a new cell's numbers are 0 -/
def ab_zero (σ : ab_M) (q : Nat) : ab_M := fun a b => bif Nat.beq a q then 0 else σ a b

/-! one step, and the run of a method, over the tables tb_.. -/
abbrev ab_S : Type := Nat × ab_L × List ab_V × ab_Sh × ab_M × Nat × Nat
/-- what a step does: goes on; calls a method with arguments, the rest of the stack stays; returns -/
abbrev ab_A : Type := ab_S ⊕ ((Nat × List ab_V × List ab_V) ⊕ Option ab_V)
def ab_isR (ty : FieldType) : Bool := match ty with
  | .object _ => true
  | .array _ => true
  | _ => false
def ab_fit (ty : FieldType) (x : Int32) : Bool := match ty with
  | .int => true
  | .boolean => decide (x = 0) || decide (x = 1)
  | _ => false
def ab_fty (ci k : Nat) : FieldType := (tb_ft.getD ci []).getD k .double
/-- may this method set this field: it isn't final, or this is its class's constructor -/
def ab_may (M : ab_Me) (ci k : Nat) : Bool := match vwCl[ci]? with
  | some r => Nat.blt k r.2.2 && (!(r.2.1 k).2.2.2 || (me_ini M && Nat.beq (me_own M) ci))
  | none => false
def ab_in (x : Int32) (n : Nat) : Bool := !decide (x < 0) && Nat.blt x.toNatClampNeg n
def ab_tob (t : Nat) : Bool := match tb_A[t]? with
  | some (.object _) => true
  | _ => false
def ab_teA (t ci : Nat) : Bool := match tb_A[t]? with
  | some (.object C) => (match vwCl[ci]? with
    | some r => decide (C = r.1)
    | none => false)
  | _ => false
def tb_at (a : ArrayType) : Nat := match a with
  | .int => 0
  | .char => 1
  | .boolean => 2
  | _ => 9
def ab_teq (t : Nat) (ty : FieldType) : Bool := decide (tb_A[t]? = some ty)
def ab_get (o x : Nat) (st : List ab_V) (sh : ab_Sh) (σ : ab_M) : Option (List ab_V) := match tb_F o x with
  | some (ci, k) => (match st with
    | .inr (.inr q) :: r => (match sh[q]? with
      | some (.inl (ci', ff)) => bif Nat.beq ci' ci then (match ff[k]? with
        | some none => some (.inl (σ q k) :: r)
        | some (some (some z)) => some (.inr (.inr z) :: r)
        | _ => none) else none
      | _ => none)
    | _ => none)
  | none => none
def ab_put (M : ab_Me) (x : Nat) (st : List ab_V) (sh : ab_Sh) (σ : ab_M) : Option (List ab_V × ab_Sh × ab_M) := match tb_F (me_own M) x with
  | some (ci, k) => (match st with
    | .inl v :: .inr (.inr q) :: r => (match sh[q]? with
      | some (.inl (ci', ff)) => bif Nat.beq ci' ci && ab_may M ci k && ab_fit (ab_fty ci k) v then (match ff[k]? with
        | some none => some (r, sh, ab_upd σ q k v)
        | _ => none) else none
      | _ => none)
    | .inr (.inr z) :: .inr (.inr q) :: r => (match sh[q]? with
      | some (.inl (ci', ff)) => bif Nat.beq ci' ci && ab_may M ci k && ab_isR (ab_fty ci k) then (match ff[k]? with
        | some (some _) => some (r, sh.set q (.inl (ci', ff.set k (some (some z)))), σ)
        | _ => none) else none
      | _ => none)
    | _ => none)
  | none => none
def ab_load (ty : FieldType) (st : List ab_V) (sh : ab_Sh) (σ : ab_M) : Option (List ab_V) := match st with
  | .inl x :: .inr (.inr q) :: r => (match sh[q]? with
    | some (.inr (.inl (t, n))) => bif ab_teq t ty && ab_in x n then some (.inl (σ q x.toNatClampNeg) :: r) else none
    | _ => none)
  | _ => none
def ab_stor (ty : FieldType) (st : List ab_V) (sh : ab_Sh) (σ : ab_M) : Option (List ab_V × ab_M) := match st with
  | .inl y :: .inl x :: .inr (.inr q) :: r => (match sh[q]? with
    | some (.inr (.inl (t, n))) => bif ab_teq t ty && ab_in x n then some (r, ab_upd σ q x.toNatClampNeg (ab_nar ty y)) else none
    | _ => none)
  | _ => none
def ab_loadA (st : List ab_V) (sh : ab_Sh) : Option (List ab_V) := match st with
  | .inl x :: .inr (.inr q) :: r => (match sh[q]? with
    | some (.inr (.inr (t, g))) => bif ab_tob t && ab_in x g.length then (match g.getD x.toNatClampNeg none with
      | some z => some (.inr (.inr z) :: r)
      | none => none) else none
    | _ => none)
  | _ => none
def ab_storA (st : List ab_V) (sh : ab_Sh) : Option (List ab_V × ab_Sh) := match st with
  | .inr (.inr z) :: .inl x :: .inr (.inr q) :: r => (match sh[q]?, sh[z]? with
    | some (.inr (.inr (t, g))), some (.inl (ci, _)) => bif ab_teA t ci && ab_in x g.length then some (r, sh.set q (.inr (.inr (t, g.set x.toNatClampNeg (some z))))) else none
    | _, _ => none)
  | _ => none
def ab_len (st : List ab_V) (sh : ab_Sh) : Option (List ab_V) := match st with
  | .inr (.inr q) :: r => (match sh[q]? with
    | some (.inr (.inl (t, n))) => bif Nat.blt t tb_A.length then some (.inl (Int32.ofNat n) :: r) else none
    | some (.inr (.inr (t, g))) => bif Nat.blt t tb_A.length then some (.inl (Int32.ofNat g.length) :: r) else none
    | _ => none)
  | _ => none
def ab_cats (st : List ab_V) : Nat := (st.map (fun v => bif ab_c1 v then 1 else 2)).sum
/-- a call: which method, with which arguments -/
def ab_inv (kd o x : Nat) (st : List ab_V) (sh : ab_Sh) : Option (Nat × List ab_V × List ab_V) := match tb_Y kd o x with
  | some y => (match tb_M[y]? with
    | some M' => bif Nat.ble (me_na M') st.length && Nat.ble (ab_cats (st.drop (me_na M'))) 8 then
        (match kd with
        | 0 => some (y, (st.take (me_na M')).reverse, st.drop (me_na M'))
        | 1 => (match (st.take (me_na M')).reverse with
          | .inr (.inr q) :: as => (match sh[q]? with
            | some (.inl (ci, _)) => bif Nat.beq ci (me_own M') then some (y, .inr (.inr q) :: as, st.drop (me_na M')) else none
            | _ => none)
          | _ => none)
        | _ => (match (st.take (me_na M')).reverse with
          | .inr (.inr q) :: as => some (y, .inr (.inr q) :: as, st.drop (me_na M'))
          | _ => none)) else none
    | none => none)
  | none => none
def ab_rok (ty : FieldType) (x : Int32) : Bool := match ty with
  | .int => true
  | .boolean => decide (x = 0) || decide (x = 1)
  | .char => decide (vp_nar .char x = x)
  | _ => false
def ab_ret (i : Jvm.ClassFile.Instr) (r : Option FieldType) (st : List ab_V) : Option (Option ab_V) := match i with
  | .ireturn => (match r with
    | some ty => (match st with
      | [.inl x] => bif ab_rok ty x then some (some (.inl x)) else none
      | _ => none)
    | none => none)
  | .areturn => (match r with
    | some ty => (match st with
      | [.inr (.inr q)] => bif ab_isR ty then some (some (.inr (.inr q))) else none
      | _ => none)
    | none => none)
  | .return_ => (match r with
    | none => (match st with
      | [] => some none
      | _ => none)
    | some _ => none)
  | _ => none
def ab_mm (b : Bool) (x y : Int32) : Int32 := bif b then (if x < y then y else x) else (if y < x then y else x)
def ab_do (M : ab_Me) (i : Jvm.ClassFile.Instr) (n pc : Nat) (ls : ab_L) (st : List ab_V) (sh : ab_Sh) (σ : ab_M) (k s : Nat) : Option ab_A := match i with
  | .getfield x => bif Nat.beq n 3 then (ab_get (me_own M) x st sh σ).map (fun st' => .inl (pc + 3, ls, st', sh, σ, k, s)) else none
  | .putfield x => bif Nat.beq n 3 then (ab_put M x st sh σ).map (fun q => .inl (pc + 3, ls, q.1, q.2.1, q.2.2, k, s)) else none
  | .iaload => bif Nat.beq n 1 then (ab_load .int st sh σ).map (fun st' => .inl (pc + 1, ls, st', sh, σ, k, s)) else none
  | .caload => bif Nat.beq n 1 then (ab_load .char st sh σ).map (fun st' => .inl (pc + 1, ls, st', sh, σ, k, s)) else none
  | .baload => bif Nat.beq n 1 then (ab_load .boolean st sh σ).map (fun st' => .inl (pc + 1, ls, st', sh, σ, k, s)) else none
  | .iastore => bif Nat.beq n 1 then (ab_stor .int st sh σ).map (fun q => .inl (pc + 1, ls, q.1, sh, q.2, k, s)) else none
  | .castore => bif Nat.beq n 1 then (ab_stor .char st sh σ).map (fun q => .inl (pc + 1, ls, q.1, sh, q.2, k, s)) else none
  | .bastore => bif Nat.beq n 1 then (ab_stor .boolean st sh σ).map (fun q => .inl (pc + 1, ls, q.1, sh, q.2, k, s)) else none
  | .aaload => bif Nat.beq n 1 then (ab_loadA st sh).map (fun st' => .inl (pc + 1, ls, st', sh, σ, k, s)) else none
  | .aastore => bif Nat.beq n 1 then (ab_storA st sh).map (fun q => .inl (pc + 1, ls, q.1, q.2, σ, k, s)) else none
  | .arraylength => bif Nat.beq n 1 then (ab_len st sh).map (fun st' => .inl (pc + 1, ls, st', sh, σ, k, s)) else none
  | .iinc q w => bif Nat.beq n 3 && ab_okst ls q then (match ls[q]? with
    | some (some (.inl x)) => some (.inl (pc + 3, ls.set q (some (.inl (x + Int32.ofInt w))), st, sh, σ, k, s))
    | _ => none) else none
  | .idiv => bif Nat.beq n 1 then (match st with
    | .inl y :: .inl x :: r => bif decide (y = 0) then none else some (.inl (pc + 1, ls, .inl (x / y) :: r, sh, σ, k, s))
    | _ => none) else none
  | .irem => bif Nat.beq n 1 then (match st with
    | .inl y :: .inl x :: r => bif decide (y = 0) then none else some (.inl (pc + 1, ls, .inl (x - x / y * y) :: r, sh, σ, k, s))
    | _ => none) else none
  | .ldc x => bif Nat.beq n 2 then (tb_I (me_own M) x).map (fun v => .inl (pc + 2, ls, .inl v :: st, sh, σ, k, s)) else none
  | .ldc2_w x => bif Nat.beq n 3 then (tb_J (me_own M) x).map (fun v => .inl (pc + 3, ls, .inr (.inl v) :: st, sh, σ, k, s)) else none
  | .new x => bif Nat.beq n 3 && Nat.ble (k + 1) (me_mc M) then (match tb_N (me_own M) x with
    | some ci => (match tb_ft[ci]? with
      | some f => bif Nat.ble (s + f.length) (me_ms M) then some (.inl (pc + 3, ls, .inr (.inr sh.length) :: st, sh ++ [.inl (ci, f.map (fun ty => bif ab_isR ty then some none else none))], ab_zero σ sh.length, k + 1, s + f.length)) else none
      | none => none)
    | none => none) else none
  | .newarray a => bif Nat.beq n 2 && Nat.ble (k + 1) (me_mc M) then (match st with
    | .inl x :: r => bif !decide (x < 0) && ab_teq (tb_at a) (newarray.typeOf a) && Nat.ble (x.toNatClampNeg * 4) 536870912 && Nat.ble (s + x.toNatClampNeg) (me_ms M) then some (.inl (pc + 2, ls, .inr (.inr sh.length) :: r, sh ++ [.inr (.inl (tb_at a, x.toNatClampNeg))], ab_zero σ sh.length, k + 1, s + x.toNatClampNeg)) else none
    | _ => none) else none
  | .anewarray x => bif Nat.beq n 3 && Nat.ble (k + 1) (me_mc M) then (match st with
    | .inl y :: r => (match tb_Q (me_own M) x with
      | some t => bif !decide (y < 0) && Nat.ble (y.toNatClampNeg * 4) 536870912 && Nat.ble (s + y.toNatClampNeg) (me_ms M) then some (.inl (pc + 3, ls, .inr (.inr sh.length) :: r, sh ++ [.inr (.inr (t, List.replicate y.toNatClampNeg none))], ab_zero σ sh.length, k + 1, s + y.toNatClampNeg)) else none
      | none => none)
    | _ => none) else none
  | .invokestatic x => bif Nat.beq n 3 then (match tb_X (me_own M) x with
    | some b => (match st with
      | .inl y :: .inl z :: r => bif Nat.ble 1 (me_fr M) && Nat.ble (ab_cats r + 13) (me_lo M) && Nat.ble k (me_mc M) && Nat.ble s (me_ms M) then some (.inl (pc + 3, ls, .inl (ab_mm b z y) :: r, sh, σ, k, s)) else none
      | _ => none)
    | none => (ab_inv 0 (me_own M) x st sh).map (fun q => .inr (.inl q))) else none
  | .invokevirtual x => bif Nat.beq n 3 then (ab_inv 1 (me_own M) x st sh).map (fun q => .inr (.inl q)) else none
  | .invokespecial x => bif Nat.beq n 3 then (bif tb_O (me_own M) x then (match st with
      | .inr (.inr _) :: r => bif Nat.ble 1 (me_fr M) && Nat.ble (ab_cats r + 12) (me_lo M) then some (.inl (pc + 3, ls, r, sh, σ, k, s)) else none
      | _ => none)
    else (ab_inv 2 (me_own M) x st sh).map (fun q => .inr (.inl q))) else none
  | .ireturn => bif Nat.beq n 1 && Nat.ble k (me_mc M) && Nat.ble s (me_ms M) then (ab_ret .ireturn (me_ret M) st).map (fun v => .inr (.inr v)) else none
  | .areturn => bif Nat.beq n 1 && Nat.ble k (me_mc M) && Nat.ble s (me_ms M) then (ab_ret .areturn (me_ret M) st).map (fun v => .inr (.inr v)) else none
  | .return_ => bif Nat.beq n 1 && Nat.ble k (me_mc M) && Nat.ble s (me_ms M) then (ab_ret .return_ (me_ret M) st).map (fun v => .inr (.inr v)) else none
  | .ifCond c off => bif Nat.beq n 3 && decide ((pc : Int) + off = (((pc : Int) + off).toNat : Int)) then (ab_br (.ifCond c off) st).map (fun q => .inl (bif q.1 then ((pc : Int) + off).toNat else pc + 3, ls, q.2.2, sh, σ, k, s)) else none
  | .if_icmp c off => bif Nat.beq n 3 && decide ((pc : Int) + off = (((pc : Int) + off).toNat : Int)) then (ab_br (.if_icmp c off) st).map (fun q => .inl (bif q.1 then ((pc : Int) + off).toNat else pc + 3, ls, q.2.2, sh, σ, k, s)) else none
  | .goto off => bif Nat.beq n 3 && decide ((pc : Int) + off = (((pc : Int) + off).toNat : Int)) then some (.inl (((pc : Int) + off).toNat, ls, st, sh, σ, k, s)) else none
  | .iconst v => bif Nat.beq n 1 then some (.inl (pc + 1, ls, .inl (Int32.ofInt v) :: st, sh, σ, k, s)) else none
  | .bipush v => bif Nat.beq n 2 then some (.inl (pc + 2, ls, .inl (Int8.ofInt v).toInt32 :: st, sh, σ, k, s)) else none
  | .sipush v => bif Nat.beq n 3 then some (.inl (pc + 3, ls, .inl (Int16.ofInt v).toInt32 :: st, sh, σ, k, s)) else none
  | i => (match ab_pure i ls st with
    | some q => bif Nat.beq q.1 n then some (.inl (pc + n, q.2.1, q.2.2, sh, σ, k, s)) else none
    | none => none)
def ab_step (M : ab_Me) (pc : Nat) (ls : ab_L) (st : List ab_V) (sh : ab_Sh) (σ : ab_M) (k s : Nat) : Option ab_A := match decode (me_b M) pc with
  | .ok (i, n) => ab_do M i n pc ls st sh σ k s
  | _ => none
def ab_run : Nat → ab_Me → Nat → ab_L → List ab_V → ab_Sh → ab_M → Nat → Nat → Option (Option ab_V × ab_Sh × ab_M)
  | 0, _, _, _, _, _, _, _, _ => none
  | n + 1, M, pc, ls, st, sh, σ, k, s => match ab_step M pc ls st sh σ k s with
    | some (.inl (pc', ls', st', sh', σ', k', s')) => ab_run n M pc' ls' st' sh' σ' k' s'
    | some (.inr (.inl (y, as, r))) => (match tb_M[y]? with
      | some M' => bif Nat.ble (k + me_mc M') (me_mc M) && Nat.ble (s + me_ms M') (me_ms M) && Nat.ble (me_fr M' + 1) (me_fr M) && Nat.ble (8 + (me_nl M' + 11) + me_lo M') (me_lo M) && Nat.ble (ab_sl as).length (me_nl M') then
          (match ab_run n M' 0 (ab_entry as (me_nl M')) [] sh σ 0 0 with
          | some (v, sh', σ') => ab_run n M (pc + 3) ls (v.toList ++ r) sh' σ' (k + me_mc M') (s + me_ms M')
          | none => none) else none
      | none => none)
    | some (.inr (.inr v)) => some (v, sh, σ)
    | none => none

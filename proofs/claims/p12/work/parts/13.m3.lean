section ABK
variable {p : Program} {l : Launch} {e : Env} {R : Room} {s : State} {m : MethodId} {args : Array Value} {below : List Frame} {meth : Method} {c : Code} {D : va_G} {cl : List vw_C} {base : Nat} {ca : Nat → ClassId} {nL : Nat} {Z : State → Prop}
/-- the machine goes on from here: every heap that holds the memory, every frame that holds the locals -/
def ab_K (p : Program) (l : Launch) (e : Env) (R : Room) (s : State) (m : MethodId) (args : Array Value) (below : List Frame) (meth : Method) (c : Code) (D : va_G) (cl : List vw_C) (base : Nat) (ca : Nat → ClassId) (nL : Nat) (Z : State → Prop) (pc : Nat) (ls : ab_L) (st : List ab_V) (sh : ab_Sh) (σ : ab_M) (cells slots : Nat) : Prop :=
  ∀ (H : Heap) (locs : List Loc) (lsA : Array Slot), H.size = base + sh.length → va_P D cl (ab_w base ca sh σ) H → va_S (fun q => base ≤ q) s.heap H locs → ab_has base lsA nL ls → W p l e R s m args below meth c H locs cells slots Z (F0 m pc lsA (st.map (ab_conc base)))
variable {cc : ByteArray} {pc pc' n : Nat} {i : Jvm.ClassFile.Instr} {ls ls' : ab_L} {st st' : List ab_V} {sh : ab_Sh} {σ : ab_M} {cells slots : Nat}
theorem ab_ldI_inv {q n2 : Nat} (h : ab_ldI n2 ls q st = some (n, ls', st')) : ∃ x, ls[q]? = some (some (.inl x)) ∧ n = n2 ∧ ls' = ls ∧ st' = .inl x :: st := by
  unfold ab_ldI at h
  split at h
  · rename_i x hx
    cases h
    exact ⟨x, hx, rfl, rfl, rfl⟩
  · cases h
theorem ab_ldL_inv {q n2 : Nat} (h : ab_ldL n2 ls q st = some (n, ls', st')) : ∃ x, ls[q]? = some (some (.inr (.inl x))) ∧ n = n2 ∧ ls' = ls ∧ st' = .inr (.inl x) :: st := by
  unfold ab_ldL at h
  split at h
  · rename_i x hx
    cases h
    exact ⟨x, hx, rfl, rfl, rfl⟩
  · cases h
theorem ab_ldA_inv {q n2 : Nat} (h : ab_ldA n2 ls q st = some (n, ls', st')) : ∃ x, ls[q]? = some (some (.inr (.inr x))) ∧ n = n2 ∧ ls' = ls ∧ st' = .inr (.inr x) :: st := by
  unfold ab_ldA at h
  split at h
  · rename_i x hx
    cases h
    exact ⟨x, hx, rfl, rfl, rfl⟩
  · cases h
theorem ab_stI_inv {q n2 : Nat} (h : ab_stI n2 ls q st = some (n, ls', st')) : ∃ x, st = .inl x :: st' ∧ n = n2 ∧ q < ls.length ∧ ab_okst ls q = true ∧ ls' = ls.set q (some (.inl x)) := by
  unfold ab_stI at h
  split at h
  · rename_i x r
    cases hb : (Nat.blt q ls.length && ab_okst ls q) with
    | true =>
      rw [hb] at h
      cases h
      rw [Bool.and_eq_true] at hb
      exact ⟨x, rfl, rfl, Nat.le_of_ble_eq_true hb.1, hb.2, rfl⟩
    | false =>
      rw [hb] at h
      cases h
  · cases h
theorem ab_stA_inv {q n2 : Nat} (h : ab_stA n2 ls q st = some (n, ls', st')) : ∃ x, st = .inr (.inr x) :: st' ∧ n = n2 ∧ q < ls.length ∧ ab_okst ls q = true ∧ ls' = ls.set q (some (.inr (.inr x))) := by
  unfold ab_stA at h
  split at h
  · rename_i x r
    cases hb : (Nat.blt q ls.length && ab_okst ls q) with
    | true =>
      rw [hb] at h
      cases h
      rw [Bool.and_eq_true] at hb
      exact ⟨x, rfl, rfl, Nat.le_of_ble_eq_true hb.1, hb.2, rfl⟩
    | false =>
      rw [hb] at h
      cases h
  · cases h
theorem ab_stL_inv {q n2 : Nat} (h : ab_stL n2 ls q st = some (n, ls', st')) : ∃ x, st = .inr (.inl x) :: st' ∧ n = n2 ∧ q + 1 < ls.length ∧ ab_okst ls q = true ∧ ls' = (ls.set q (some (.inr (.inl x)))).set (q + 1) none := by
  unfold ab_stL at h
  split at h
  · rename_i x r
    cases hb : (Nat.blt (q + 1) ls.length && ab_okst ls q) with
    | true =>
      rw [hb] at h
      cases h
      rw [Bool.and_eq_true] at hb
      exact ⟨x, rfl, rfl, Nat.le_of_ble_eq_true hb.1, hb.2, rfl⟩
    | false =>
      rw [hb] at h
      cases h
  · cases h
theorem ab_lc_inv (h : ab_lc ls st = some (n, ls', st')) : ∃ x y r, st = .inr (.inl y) :: .inr (.inl x) :: r ∧ n = 1 ∧ ls' = ls ∧ st' = .inl (lg_cmp x y) :: r := by
  unfold ab_lc at h
  split at h
  · rename_i y x r
    cases h
    exact ⟨x, y, r, rfl, rfl, rfl, rfl⟩
  · cases h
theorem ab_ii_inv {f : Int32 → Int32 → Int32} (h : ab_ii ls st f = some (n, ls', st')) : ∃ x y r, st = .inl y :: .inl x :: r ∧ n = 1 ∧ ls' = ls ∧ st' = .inl (f x y) :: r := by
  unfold ab_ii at h
  split at h
  · rename_i y x r
    cases h
    exact ⟨x, y, r, rfl, rfl, rfl, rfl⟩
  · cases h
theorem ab_ll_inv {f : Int64 → Int64 → Int64} (h : ab_ll ls st f = some (n, ls', st')) : ∃ x y r, st = .inr (.inl y) :: .inr (.inl x) :: r ∧ n = 1 ∧ ls' = ls ∧ st' = .inr (.inl (f x y)) :: r := by
  unfold ab_ll at h
  split at h
  · rename_i y x r
    cases h
    exact ⟨x, y, r, rfl, rfl, rfl, rfl⟩
  · cases h
theorem ab_li_inv {f : Int64 → Int32 → Int64} (h : ab_li ls st f = some (n, ls', st')) : ∃ x y r, st = .inl y :: .inr (.inl x) :: r ∧ n = 1 ∧ ls' = ls ∧ st' = .inr (.inl (f x y)) :: r := by
  unfold ab_li at h
  split at h
  · rename_i y x r
    cases h
    exact ⟨x, y, r, rfl, rfl, rfl, rfl⟩
  · cases h
theorem ab_i1_inv {f : Int32 → ab_V} (h : ab_i1 ls st f = some (n, ls', st')) : ∃ x r, st = .inl x :: r ∧ n = 1 ∧ ls' = ls ∧ st' = f x :: r := by
  unfold ab_i1 at h
  split at h
  · rename_i x r
    cases h
    exact ⟨x, r, rfl, rfl, rfl, rfl⟩
  · cases h
theorem ab_l1_inv {f : Int64 → ab_V} (h : ab_l1 ls st f = some (n, ls', st')) : ∃ x r, st = .inr (.inl x) :: r ∧ n = 1 ∧ ls' = ls ∧ st' = f x :: r := by
  unfold ab_l1 at h
  split at h
  · rename_i x r
    cases h
    exact ⟨x, r, rfl, rfl, rfl, rfl⟩
  · cases h
set_option maxHeartbeats 4000000 in
theorem ab_pure_ok (hx : p.tables.exec = Jvm.exec) (hb : c.code = cc) (hd : decode cc pc = .ok (i, n)) (hp : ab_pure i ls st = some (n, ls', st')) (hpc : pc + n = pc') (k : ab_K p l e R s m args below meth c D cl base ca nL Z pc' ls' st' sh σ cells slots) : ab_K p l e R s m args below meth c D cl base ca nL Z pc ls st sh σ cells slots := by
  intro H locs lsA hz hP hS hL
  subst hpc
  have hlen := hL.2.2.1
  unfold ab_pure at hp
  split at hp
  · obtain ⟨x, h1, rfl, rfl, rfl⟩ := ab_ldI_inv hp
    exact lv_iload_n hx hb hd rfl (ab_has_at hL h1) (k H locs lsA hz hP hS hL)
  · obtain ⟨x, h1, rfl, rfl, rfl⟩ := ab_ldI_inv hp
    exact lv_iload hx hb hd (ab_has_at hL h1) (k H locs lsA hz hP hS hL)
  · obtain ⟨x, h1, rfl, rfl, rfl⟩ := ab_ldL_inv hp
    exact lv_lload_n hx hb hd rfl (ab_has_at hL h1) (k H locs lsA hz hP hS hL)
  · obtain ⟨x, h1, rfl, rfl, rfl⟩ := ab_ldL_inv hp
    exact lv_lload hx hb hd (ab_has_at hL h1) (k H locs lsA hz hP hS hL)
  · obtain ⟨x, h1, rfl, rfl, rfl⟩ := ab_ldA_inv hp
    exact lv_aload_n hx hb hd rfl (ab_has_at hL h1) (k H locs lsA hz hP hS hL)
  · obtain ⟨x, h1, rfl, rfl, rfl⟩ := ab_ldA_inv hp
    exact lv_aload hx hb hd (ab_has_at hL h1) (k H locs lsA hz hP hS hL)
  · obtain ⟨x, rfl, rfl, h1, h2, rfl⟩ := ab_stI_inv hp
    exact lv_istore_n hx hb hd rfl (ab_has_lv hL) (by omega) rfl (fun ls2 h => k H locs ls2 hz hP hS (ab_has_st hlen h2 h))
  · obtain ⟨x, rfl, rfl, h1, h2, rfl⟩ := ab_stI_inv hp
    exact lv_istore hx hb hd (ab_has_lv hL) (by omega) rfl (fun ls2 h => k H locs ls2 hz hP hS (ab_has_st hlen h2 h))
  · obtain ⟨x, rfl, rfl, h1, h2, rfl⟩ := ab_stA_inv hp
    exact lv_astore_n hx hb hd rfl (ab_has_lv hL) (by omega) rfl (fun ls2 h => k H locs ls2 hz hP hS (ab_has_st hlen h2 h))
  · obtain ⟨x, rfl, rfl, h1, h2, rfl⟩ := ab_stA_inv hp
    exact lv_astore hx hb hd (ab_has_lv hL) (by omega) rfl (fun ls2 h => k H locs ls2 hz hP hS (ab_has_st hlen h2 h))
  · obtain ⟨x, rfl, rfl, h1, h2, rfl⟩ := ab_stL_inv hp
    exact lv_lstore hx hb hd (ab_has_lv hL) (by omega) rfl (fun ls2 h => k H locs ls2 hz hP hS (ab_has_stL hlen h2 h))
  · obtain ⟨x, y, r, rfl, rfl, rfl, rfl⟩ := ab_lc_inv hp
    exact W.lcmp hx hb hd (k H locs lsA hz hP hS hL)
  · obtain ⟨x, y, r, rfl, rfl, rfl, rfl⟩ := ab_ii_inv hp
    exact lv_iadd hx hb hd (k H locs lsA hz hP hS hL)
  · obtain ⟨x, y, r, rfl, rfl, rfl, rfl⟩ := ab_ii_inv hp
    exact lv_isub hx hb hd (k H locs lsA hz hP hS hL)
  · obtain ⟨x, y, r, rfl, rfl, rfl, rfl⟩ := ab_ii_inv hp
    exact lv_imul hx hb hd (k H locs lsA hz hP hS hL)
  · obtain ⟨x, y, r, rfl, rfl, rfl, rfl⟩ := ab_ii_inv hp
    exact lv_iand hx hb hd (k H locs lsA hz hP hS hL)
  · obtain ⟨x, y, r, rfl, rfl, rfl, rfl⟩ := ab_ii_inv hp
    exact lv_ior hx hb hd (k H locs lsA hz hP hS hL)
  · obtain ⟨x, y, r, rfl, rfl, rfl, rfl⟩ := ab_ii_inv hp
    exact lv_ixor hx hb hd (k H locs lsA hz hP hS hL)
  · obtain ⟨x, y, r, rfl, rfl, rfl, rfl⟩ := ab_ii_inv hp
    exact lv_ishl hx hb hd (k H locs lsA hz hP hS hL)
  · obtain ⟨x, y, r, rfl, rfl, rfl, rfl⟩ := ab_ii_inv hp
    exact lv_ishr hx hb hd (k H locs lsA hz hP hS hL)
  · obtain ⟨x, r, rfl, rfl, rfl, rfl⟩ := ab_i1_inv hp
    exact lv_ineg hx hb hd (k H locs lsA hz hP hS hL)
  · obtain ⟨x, y, r, rfl, rfl, rfl, rfl⟩ := ab_ll_inv hp
    exact lv_land hx hb hd (k H locs lsA hz hP hS hL)
  · obtain ⟨x, y, r, rfl, rfl, rfl, rfl⟩ := ab_ll_inv hp
    exact lv_lor hx hb hd (k H locs lsA hz hP hS hL)
  · obtain ⟨x, y, r, rfl, rfl, rfl, rfl⟩ := ab_li_inv hp
    exact lv_lushr hx hb hd rfl (k H locs lsA hz hP hS hL)
  · obtain ⟨x, y, r, rfl, rfl, rfl, rfl⟩ := ab_li_inv hp
    exact lv_lshr hx hb hd rfl (k H locs lsA hz hP hS hL)
  · obtain ⟨x, y, r, rfl, rfl, rfl, rfl⟩ := ab_li_inv hp
    exact lv_lshl hx hb hd rfl (k H locs lsA hz hP hS hL)
  · obtain ⟨x, r, rfl, rfl, rfl, rfl⟩ := ab_l1_inv hp
    exact lv_l2i hx hb hd rfl (k H locs lsA hz hP hS hL)
  · obtain ⟨x, r, rfl, rfl, rfl, rfl⟩ := ab_i1_inv hp
    exact lv_i2l hx hb hd rfl (k H locs lsA hz hP hS hL)
  · obtain ⟨x, r, rfl, rfl, rfl, rfl⟩ := ab_i1_inv hp
    exact lv_i2c hx hb hd rfl (k H locs lsA hz hP hS hL)
  · split at hp
    · rename_i v r
      cases hv : ab_c1 v with
      | true =>
        rw [hv] at hp
        cases hp
        exact lv_dup hx hb hd (ab_c1_cat hv) (k H locs lsA hz hP hS hL)
      | false =>
        rw [hv] at hp
        cases hp
    · cases hp
  · split at hp
    · rename_i v r
      cases hv : ab_c1 v with
      | true =>
        rw [hv] at hp
        cases hp
        exact lv_pop hx hb hd (ab_c1_cat hv) (k H locs lsA hz hP hS hL)
      | false =>
        rw [hv] at hp
        cases hp
    · cases hp
  · split at hp
    · rename_i v w r
      cases hv : (ab_c1 v && ab_c1 w) with
      | true =>
        rw [hv] at hp
        rw [Bool.and_eq_true] at hv
        cases hp
        exact lv_dup_x1 hx hb hd (ab_c1_cat hv.1) (ab_c1_cat hv.2) (k H locs lsA hz hP hS hL)
      | false =>
        rw [hv] at hp
        cases hp
    · cases hp
  · split at hp
    · rename_i v w r
      cases hv : (ab_c1 v && ab_c1 w) with
      | true =>
        rw [hv] at hp
        rw [Bool.and_eq_true] at hv
        cases hp
        exact lv_dup2_11 hx hb hd (ab_c1_cat hv.1) (ab_c1_cat hv.2) (k H locs lsA hz hP hS hL)
      | false =>
        rw [hv] at hp
        cases hp
    · cases hp
  · cases hp
theorem ab_cst_ok {v : Int32} (hx : p.tables.exec = Jvm.exec) (hb : c.code = cc) (hd : decode cc pc = .ok (i, n)) (hp : ab_cst i = some (n, v)) (k : ab_K p l e R s m args below meth c D cl base ca nL Z (pc + n) ls (.inl v :: st) sh σ cells slots) : ab_K p l e R s m args below meth c D cl base ca nL Z pc ls st sh σ cells slots := by
  intro H locs lsA hz hP hS hL
  unfold ab_cst at hp
  split at hp
  · cases hp
    exact lv_iconst hx hb hd rfl (k H locs lsA hz hP hS hL)
  · cases hp
    exact lv_bipush hx hb hd rfl (k H locs lsA hz hP hS hL)
  · cases hp
    exact lv_sipush hx hb hd rfl (k H locs lsA hz hP hS hL)
  · cases hp
theorem ab_inc_ok {q : Nat} {w : Int} {x : Int32} (hx : p.tables.exec = Jvm.exec) (hb : c.code = cc) (hd : decode cc pc = .ok (.iinc q w, 3)) (h1 : ls[q]? = some (some (.inl x))) (h2 : ab_okst ls q = true) (k : ab_K p l e R s m args below meth c D cl base ca nL Z (pc + 3) (ls.set q (some (.inl (x + Int32.ofInt w)))) st sh σ cells slots) : ab_K p l e R s m args below meth c D cl base ca nL Z pc ls st sh σ cells slots := by
  intro H locs lsA hz hP hS hL
  have hm : (q, Value.int x) ∈ ab_as base ls := ab_as_mem.mpr ⟨.inl x, h1, rfl⟩
  obtain ⟨j, hj⟩ := List.getElem?_of_mem hm
  have hq : q < nL := by
    have := (List.getElem?_eq_some_iff.mp h1).1
    have := hL.2.2.1
    omega
  exact lv_iinc hx hb hd (ab_has_lv hL) hj rfl hq rfl (fun ls2 h => k H locs ls2 hz hP hS (ab_has_st (v := .inl (x + Int32.ofInt w)) hL.2.2.1 h2 h))
set_option maxHeartbeats 4000000 in
theorem ab_br_ok {P : Bool} {off : Int} {tgt : Nat} (hx : p.tables.exec = Jvm.exec) (hb : c.code = cc) (hd : decode cc pc = .ok (i, 3)) (hp : ab_br i st = some (P, off, st')) (ht : (pc : Int) + off = (tgt : Int)) (k : ab_K p l e R s m args below meth c D cl base ca nL Z (bif P then tgt else pc + 3) ls st' sh σ cells slots) : ab_K p l e R s m args below meth c D cl base ca nL Z pc ls st sh σ cells slots := by
  intro H locs lsA hz hP hS hL
  have kk := k H locs lsA hz hP hS hL
  clear k
  unfold ab_br at hp
  split at hp
  · rename_i cn off2
    split at hp
    · rename_i x r
      cases hp
      cases hP2 : ab_z cn x with
      | true =>
        rw [hP2] at kk
        cases cn
        · exact lv_if_eq hx hb hd ht (fun _ => kk) (fun h => absurd (of_decide_eq_true hP2) h)
        · exact lv_if_ne hx hb hd ht (fun _ => kk) (fun h => absurd h (by simpa [ab_z] using hP2))
        · exact lv_if_lt hx hb hd ht (fun _ => kk) (fun h => absurd (of_decide_eq_true hP2) h)
        · exact lv_if_ge hx hb hd ht (fun _ => kk) (fun h => absurd (of_decide_eq_true hP2) h)
        · exact lv_if_gt hx hb hd ht (fun _ => kk) (fun h => absurd (of_decide_eq_true hP2) h)
        · exact lv_if_le hx hb hd ht (fun _ => kk) (fun h => absurd (of_decide_eq_true hP2) h)
      | false =>
        rw [hP2] at kk
        cases cn
        · exact lv_if_eq hx hb hd ht (fun h => absurd h (of_decide_eq_false hP2)) (fun _ => kk)
        · exact lv_if_ne hx hb hd ht (fun h => absurd (by simpa [ab_z] using hP2) h) (fun _ => kk)
        · exact lv_if_lt hx hb hd ht (fun h => absurd h (of_decide_eq_false hP2)) (fun _ => kk)
        · exact lv_if_ge hx hb hd ht (fun h => absurd h (of_decide_eq_false hP2)) (fun _ => kk)
        · exact lv_if_gt hx hb hd ht (fun h => absurd h (of_decide_eq_false hP2)) (fun _ => kk)
        · exact lv_if_le hx hb hd ht (fun h => absurd h (of_decide_eq_false hP2)) (fun _ => kk)
    · cases hp
  · rename_i cn off2
    split at hp
    · rename_i y x r
      cases hp
      cases hP2 : ab_cmp cn x y with
      | true =>
        rw [hP2] at kk
        cases cn
        · exact lv_icmp_eq hx hb hd ht (fun _ => kk) (fun h => absurd (of_decide_eq_true hP2) h)
        · exact lv_icmp_ne hx hb hd ht (fun _ => kk) (fun h => absurd h (by simpa [ab_cmp] using hP2))
        · exact lv_icmp_lt hx hb hd ht (fun _ => kk) (fun h => absurd (of_decide_eq_true hP2) h)
        · exact lv_icmp_ge hx hb hd ht (fun _ => kk) (fun h => absurd (of_decide_eq_true hP2) h)
        · exact lv_icmp_gt hx hb hd ht (fun _ => kk) (fun h => absurd (of_decide_eq_true hP2) h)
        · exact lv_icmp_le hx hb hd ht (fun _ => kk) (fun h => absurd (of_decide_eq_true hP2) h)
      | false =>
        rw [hP2] at kk
        cases cn
        · exact lv_icmp_eq hx hb hd ht (fun h => absurd h (of_decide_eq_false hP2)) (fun _ => kk)
        · exact lv_icmp_ne hx hb hd ht (fun h => absurd (by simpa [ab_cmp] using hP2) h) (fun _ => kk)
        · exact lv_icmp_lt hx hb hd ht (fun h => absurd h (of_decide_eq_false hP2)) (fun _ => kk)
        · exact lv_icmp_ge hx hb hd ht (fun h => absurd h (of_decide_eq_false hP2)) (fun _ => kk)
        · exact lv_icmp_gt hx hb hd ht (fun h => absurd h (of_decide_eq_false hP2)) (fun _ => kk)
        · exact lv_icmp_le hx hb hd ht (fun h => absurd h (of_decide_eq_false hP2)) (fun _ => kk)
    · cases hp
  · cases hp
    exact lv_goto hx hb hd ht kk
  · cases hp
theorem ab_idiv_ok {x y : Int32} (hx : p.tables.exec = Jvm.exec) (hb : c.code = cc) (hd : decode cc pc = .ok (.idiv, 1)) (hy : ¬ y = 0) (k : ab_K p l e R s m args below meth c D cl base ca nL Z (pc + 1) ls (.inl (x / y) :: st) sh σ cells slots) : ab_K p l e R s m args below meth c D cl base ca nL Z pc ls (.inl y :: .inl x :: st) sh σ cells slots :=
  fun H locs lsA hz hP hS hL => lv_idiv hx hb hd hy (k H locs lsA hz hP hS hL)
theorem ab_irem_ok {x y : Int32} (hx : p.tables.exec = Jvm.exec) (hb : c.code = cc) (hd : decode cc pc = .ok (.irem, 1)) (hy : ¬ y = 0) (k : ab_K p l e R s m args below meth c D cl base ca nL Z (pc + 1) ls (.inl (x - x / y * y) :: st) sh σ cells slots) : ab_K p l e R s m args below meth c D cl base ca nL Z pc ls (.inl y :: .inl x :: st) sh σ cells slots :=
  fun H locs lsA hz hP hS hL => lv_irem hx hb hd hy (k H locs lsA hz hP hS hL)
end ABK

section ABO
variable {p : Program} {l : Launch} {e : Env} {R : Room} {s : State} {m : MethodId} {args : Array Value} {below : List Frame} {meth : Method} {c : Code} {D : va_G} {base : Nat} {ca : Nat → ClassId} {nL o : Nat} {ini : Bool} {Z : State → Prop}
variable {cc : ByteArray} {pc x : Nat} {ls : ab_L} {st st' : List ab_V} {sh sh' : ab_Sh} {σ σ' : ab_M} {cells slots : Nat}
theorem tb_ft_len {ci : Nat} {C : String} {T : u_T} {N : Nat} {f : List FieldType} (h : vwCl[ci]? = some (C, T, N)) (hf : tb_ft[ci]? = some f) : f.length = N := by
  match ci, h with
  | 0, h => cases h; cases hf; rfl
  | 1, h => cases h; cases hf; rfl
  | 2, h => cases h; cases hf; rfl
  | 3, h => cases h; cases hf; rfl
  | 4, h => cases h; cases hf; rfl
  | 5, h => cases h; cases hf; rfl
  | 6, h => cases h; cases hf; rfl
  | 7, h => cases h; cases hf; rfl
  | 8, h => cases h; cases hf; rfl
  | ci + 9, h => simp [vwCl] at h
/-- the fields of a new object -/
def ab_ob (f : List FieldType) : List (Option (Option Nat)) := f.map (fun ty => bif ab_isR ty then some none else none)
def ab_okf (ty : FieldType) : Bool := match ty with
  | .int => true
  | .boolean => true
  | .object _ => true
  | .array _ => true
  | _ => false
theorem tb_ft_ok {ci : Nat} {f : List FieldType} (hf : tb_ft[ci]? = some f) : ∀ ty ∈ f, ab_okf ty = true := by
  have h : ∀ f ∈ tb_ft, ∀ ty ∈ f, ab_okf ty = true := by decide +kernel
  exact h f (List.mem_of_getElem? hf)
theorem ab_okf_def {base : Nat} {ty : FieldType} (h : ab_okf ty = true) : defaultValue ty = ab_fv base (bif ab_isR ty then some none else none) 0 := by
  unfold ab_okf at h
  split at h
  · rfl
  · rfl
  · rfl
  · rfl
  · cases h
set_option maxHeartbeats 4000000 in
theorem ab_newW {ci : Nat} {f : List FieldType} {H : Heap} {locs : List Loc} {lsA : Array Slot} {stv : List Value} (F : ab_Fr p s m args meth c cc nL o ini D ca base) (hd : decode cc pc = .ok (.new x, 3)) (hN : tb_N o x = some ci) (hf : tb_ft[ci]? = some f) (hc : cells + 1 ≤ R.cells) (hsl : slots + f.length ≤ R.slots) (hz : H.size = base + sh.length) (hP : va_P D vwCl (ab_w base ca sh σ) H) (hS : va_S (fun q => base ≤ q) s.heap H locs)
    (k : ∀ H1 : Heap, H1.size = base + (sh ++ [Sum.inl (ci, ab_ob f)] : ab_Sh).length → va_P D vwCl (ab_w base ca (sh ++ [.inl (ci, ab_ob f)]) (ab_zero σ sh.length)) H1 → va_S (fun q => base ≤ q) s.heap H1 locs → W p l e R s m args below meth c H1 locs (cells + 1) (slots + f.length) Z (F0 m (pc + 3) lsA (.ref (base + sh.length) :: stv))) : W p l e R s m args below meth c H locs cells slots Z (F0 m pc lsA stv) := by
  obtain ⟨hx, hb, hml, hown, hts, hX, hbs, hini, hlk⟩ := F
  obtain ⟨⟨C, T, N⟩, h1, h2, h3, h4⟩ := tb_N_ok hN
  obtain ⟨f1, f2, f3, f4⟩ := tb_fam _ _ h1
  have hlen := tb_ft_len h1 hf
  subst hlen
  have hfty : ∀ j, j < f.length → ab_fty ci j = f.getD j .double := by
    intro j _
    unfold ab_fty
    rw [List.getD_eq_getElem?_getD (l := tb_ft), hf]
    rfl
  refine ab_new0 (D := D) (C := C) (T := T) (N := f.length) (ci := ci) (fs := (ab_ob f).mapIdx (fun j r => ab_fv base r 0)) hx hb hts f1 (ab_fty ci) f2 hown (hts _ h2) (hts _ h3) (hts _ h4) hX.1 hP hS h1 ?_ hc hsl hd (fun H1 z1 hP1 hS1 => ?_)
  · intro j hj
    rw [hfty j hj]
    have hg : f[j]? = some f[j] := List.getElem?_eq_getElem hj
    have hty : f.getD j .double = f[j] := by rw [List.getD_eq_getElem?_getD, hg]; rfl
    rw [hty]
    show defaultValue f[j] = ((ab_ob f).mapIdx (fun j r => ab_fv base r 0)).getD j .null
    rw [List.getD_eq_getElem?_getD, List.getElem?_mapIdx]
    unfold ab_ob
    rw [List.getElem?_map, hg]
    exact ab_okf_def (tb_ft_ok hf _ (List.getElem_mem hj))
  · have e : H.size = base + sh.length := hz
    rw [e] at hP1 z1 ⊢
    refine k H1 (by rw [List.length_append, z1]; rfl) ?_ hS1
    rw [ab_w_push]
    exact hP1
theorem ab_new_ok {ci : Nat} {f : List FieldType} (F : ab_Fr p s m args meth c cc nL o ini D ca base) (hd : decode cc pc = .ok (.new x, 3)) (hN : tb_N o x = some ci) (hf : tb_ft[ci]? = some f) (hc : cells + 1 ≤ R.cells) (hsl : slots + f.length ≤ R.slots) (k : ab_K p l e R s m args below meth c D vwCl base ca nL Z (pc + 3) ls (.inr (.inr sh.length) :: st) (sh ++ [.inl (ci, ab_ob f)]) (ab_zero σ sh.length) (cells + 1) (slots + f.length)) : ab_K p l e R s m args below meth c D vwCl base ca nL Z pc ls st sh σ cells slots :=
  fun H locs lsA hz hP hS hL => ab_newW F hd hN hf hc hsl hz hP hS (fun H1 z1 hP1 hS1 => k H1 locs lsA z1 hP1 hS1 hL)
set_option maxHeartbeats 4000000 in
theorem ab_newa_ok {a : ArrayType} {n : Int32} (F : ab_Fr p s m args meth c cc nL o ini D ca base) (hd : decode cc pc = .ok (.newarray a, 2)) (hn : ¬ n < 0) (ht : ab_teq (tb_at a) (newarray.typeOf a) = true) (hby : n.toNatClampNeg * 4 ≤ 536870912) (hc : cells + 1 ≤ R.cells) (hsl : slots + n.toNatClampNeg ≤ R.slots) (k : ab_K p l e R s m args below meth c D vwCl base ca nL Z (pc + 2) ls (.inr (.inr sh.length) :: st) (sh ++ [.inr (.inl (tb_at a, n.toNatClampNeg))]) (ab_zero σ sh.length) (cells + 1) (slots + n.toNatClampNeg)) : ab_K p l e R s m args below meth c D vwCl base ca nL Z pc ls (.inl n :: st) sh σ cells slots := by
  obtain ⟨hx, hb, hml, hown, hts, hX, hbs, hini, hlk⟩ := F
  intro H locs lsA hz hP hS hL
  have hfin : ∀ (H1 : Heap), H1.size = H.size + 1 → va_P D vwCl (ab_w base ca sh σ ++ [(H.size, .inl (ca (tb_at a), n.toNatClampNeg, .inl (fun _ => 0)))]) H1 → va_S (fun q => base ≤ q) s.heap H1 locs → W p l e R s m args below meth c H1 locs (cells + 1) (slots + n.toNatClampNeg) Z (F0 m (pc + 2) lsA (.ref H.size :: st.map (ab_conc base))) := by
    intro H1 z1 hP1 hS1
    have e : H.size = base + sh.length := hz
    rw [e] at hP1 z1 ⊢
    refine k H1 locs lsA (by rw [List.length_append, z1]; rfl) ?_ hS1 hL
    rw [ab_w_push]
    exact hP1
  have htA := ab_T_at (ca := ca) (of_decide_eq_true ht)
  cases a
  · exact ab_newa0 (atype := .boolean) hx hb (hts _ tb_ac_boolean) rfl hX.1 hP hS (tb_at .boolean) htA (fun cA h1 h2 => Option.some.inj (h2.symm.trans h1)) (a0 := (n.toNatClampNeg, .inl (fun _ => 0))) (fun cA => rfl) hn rfl (by show n.toNatClampNeg * 1 ≤ _; omega) hc hsl hd hfin
  · exact ab_newa0 (atype := .char) hx hb (hts _ tb_ac_char) rfl hX.1 hP hS (tb_at .char) htA (fun cA h1 h2 => Option.some.inj (h2.symm.trans h1)) (a0 := (n.toNatClampNeg, .inl (fun _ => 0))) (fun cA => rfl) hn rfl (by show n.toNatClampNeg * 2 ≤ _; omega) hc hsl hd hfin
  · exact absurd ht (by decide)
  · exact absurd ht (by decide)
  · exact absurd ht (by decide)
  · exact absurd ht (by decide)
  · exact ab_newa0 (atype := .int) hx hb (hts _ tb_ac_int) rfl hX.1 hP hS (tb_at .int) htA (fun cA h1 h2 => Option.some.inj (h2.symm.trans h1)) (a0 := (n.toNatClampNeg, .inl (fun _ => 0))) (fun cA => rfl) hn rfl (by show n.toNatClampNeg * 4 ≤ _; omega) hc hsl hd hfin
  · exact absurd ht (by decide)
set_option maxHeartbeats 4000000 in
theorem ab_newq_ok {t : Nat} {n : Int32} (F : ab_Fr p s m args meth c cc nL o ini D ca base) (hd : decode cc pc = .ok (.anewarray x, 3)) (hQ : tb_Q o x = some t) (hn : ¬ n < 0) (hby : n.toNatClampNeg * 4 ≤ 536870912) (hc : cells + 1 ≤ R.cells) (hsl : slots + n.toNatClampNeg ≤ R.slots) (k : ab_K p l e R s m args below meth c D vwCl base ca nL Z (pc + 3) ls (.inr (.inr sh.length) :: st) (sh ++ [.inr (.inr (t, List.replicate n.toNatClampNeg none))]) (ab_zero σ sh.length) (cells + 1) (slots + n.toNatClampNeg)) : ab_K p l e R s m args below meth c D vwCl base ca nL Z pc ls (.inl n :: st) sh σ cells slots := by
  obtain ⟨hx, hb, hml, hown, hts, hX, hbs, hini, hlk⟩ := F
  obtain ⟨rfl, h2⟩ := tb_Q_ok hQ
  intro H locs lsA hz hP hS hL
  refine ab_newq0 hx hb hown (hts _ h2) hX.2.2 hX.1 hP hS 3 (ab_T_at rfl) hn rfl hby hc hsl hd (fun H1 z1 hP1 hS1 => ?_)
  have e : H.size = base + sh.length := hz
  rw [e] at hP1 z1 ⊢
  refine k H1 locs lsA (by rw [List.length_append, z1]; rfl) ?_ hS1 hL
  rw [ab_w_push]
  have e2 : ab_cell base ca (.inr (.inr (3, List.replicate n.toNatClampNeg none))) (fun _ => 0) = .inl (ca 3, n.toNatClampNeg, .inr (.inr (.inr (.inr (fun _ => none))))) := by
    unfold ab_cell
    simp only [List.length_replicate]
    congr 7
    funext j
    rw [List.getD_eq_getElem?_getD, List.getElem?_replicate]
    split <;> rfl
  rw [e2]
  exact hP1
theorem ab_cats_eq (r : List ab_V) : ((r.map (ab_conc base)).map fun v => v.category).sum = ab_cats r := by
  unfold ab_cats
  rw [List.map_map]
  congr 1
  apply List.map_congr_left
  intro v _
  exact ab_conc_cat
theorem ab_objI_ok {q : Nat} {r : List ab_V} (F : ab_Fr p s m args meth c cc nL o ini D ca base) (hd : decode cc pc = .ok (.invokespecial x, 3)) (hO : tb_O o x = true) (h1 : 1 ≤ R.frames) (h2 : ab_cats r + 12 ≤ R.locals) (k : ab_K p l e R s m args below meth c D vwCl base ca nL Z (pc + 3) ls r sh σ cells slots) : ab_K p l e R s m args below meth c D vwCl base ca nL Z pc ls (.inr (.inr q) :: r) sh σ cells slots := by
  obtain ⟨hx, hb, hml, hown, hts, hX, hbs, hini, hlk⟩ := F
  intro H locs lsA hz hP hS hL
  refine W.objInit hx hb hown (hts _ (tb_O_ok hO)) (hts _ tb_oi) (hts _ tb_oc) (g := F0 m pc lsA _) rfl (hL.1.trans hml.symm) rfl hd h1 ?_ (k H locs lsA hz hP hS hL)
  show 2 * 0 + _ + 12 ≤ _
  rw [ab_cats_eq]
  omega
theorem ab_mm_ok {b : Bool} {y z : Int32} {r : List ab_V} (F : ab_Fr p s m args meth c cc nL o ini D ca base) (hd : decode cc pc = .ok (.invokestatic x, 3)) (hO : tb_X o x = some b) (h1 : 1 ≤ R.frames) (h2 : ab_cats r + 13 ≤ R.locals) (h3 : cells ≤ R.cells) (h4 : slots ≤ R.slots) (k : ab_K p l e R s m args below meth c D vwCl base ca nL Z (pc + 3) ls (.inl (ab_mm b z y) :: r) sh σ cells slots) : ab_K p l e R s m args below meth c D vwCl base ca nL Z pc ls (.inl y :: .inl z :: r) sh σ cells slots := by
  obtain ⟨hx, hb, hml, hown, hts, hX, hbs, hini, hlk⟩ := F
  intro H locs lsA hz hP hS hL
  have hl := tb_X_ok hO
  have h2' : ((r.map (ab_conc base)).map fun v => v.category).sum + 13 ≤ R.locals := by rw [ab_cats_eq]; exact h2
  cases b
  · exact va_mmin hx hb (hml.trans hL.1.symm) hown (hts _ hl) (hts _ tb_xmin) (hts _ tb_xi) (hts _ tb_xcmin) h1 h2' h3 h4 hd (k H locs lsA hz hP hS hL)
  · exact va_mmax hx hb (hml.trans hL.1.symm) hown (hts _ hl) (hts _ tb_xmax) (hts _ tb_xi) (hts _ tb_xcmax) h1 h2' h3 h4 hd (k H locs lsA hz hP hS hL)
end ABO

theorem ab_bif {α : Type} {b : Bool} {x : Option α} {y : α} (h : (bif b then x else none) = some y) : b = true ∧ x = some y := by
  cases b
  · cases h
  · exact ⟨rfl, h⟩
theorem tb_fam_in {C : String} {T : u_T} {N : Nat} (h : (u_ws C T N).all (fun w => decide (w ∈ lw_tbl) && goodWord w) = true) : ∀ w ∈ u_ws C T N, w ∈ tb_W := by
  intro w hw
  have h1 := List.all_eq_true.mp h w hw
  rw [Bool.and_eq_true] at h1
  exact List.mem_filter.mpr ⟨of_decide_eq_true h1.1, h1.2⟩
theorem tb_fam : ab_Fam vwCl tb_W ab_fty := by
  intro ci r hr
  match ci, hr with
  | 0, hr => cases hr; exact ⟨tb_fam_in tb_fa_0, by decide +kernel, nmX0, by decide +kernel⟩
  | 1, hr => cases hr; exact ⟨tb_fam_in tb_fa_1, by decide +kernel, nmX1, by decide +kernel⟩
  | 2, hr => cases hr; exact ⟨tb_fam_in tb_fa_2, by decide +kernel, nmX2, by decide +kernel⟩
  | 3, hr => cases hr; exact ⟨tb_fam_in tb_fa_3, by decide +kernel, nmX3, by decide +kernel⟩
  | 4, hr => cases hr; exact ⟨tb_fam_in tb_fa_4, by decide +kernel, nmX4, by decide +kernel⟩
  | 5, hr => cases hr; exact ⟨tb_fam_in tb_fa_5, by decide +kernel, nmX5, by decide +kernel⟩
  | 6, hr => cases hr; exact ⟨tb_fam_in tb_fa_6, by decide +kernel, nmX6, by decide +kernel⟩
  | 7, hr => cases hr; exact ⟨tb_fam_in tb_fa_7, by decide +kernel, nmX7, by decide +kernel⟩
  | 8, hr => cases hr; exact ⟨tb_fam_in tb_fa_8, by decide +kernel, nmX8, by decide +kernel⟩
  | ci + 9, hr => simp [vwCl] at hr
/-- what of the tables goes along from frame to frame -/
def ab_X (D : va_G) (ca : Nat → ClassId) (U : State) : Prop := va_K D vwCl (ab_T ca tb_A) U ∧ (∀ q ∈ tb_nest, va_Nw (.methodLinkNest q.1 q.2.1 q.2.2.1 q.2.2.2.1) U) ∧ va_AO "StructureFinder$Clause" U
theorem ab_X.warm {D : va_G} {ca : Nat → ClassId} {s U : State} (hW : s.WarmedH U.vm) (h : ab_X D ca s) : ab_X D ca U := ⟨va_K.moved hW.alike h.1, fun q hq => va_Nw.warmM hW (h.2.1 q hq), va_AO.moved hW.alike h.2.2⟩
theorem ab_X.call {D : va_G} {ca : Nat → ClassId} {U : State} {g : JFrame} {mk : MethodId} {a : Array Value} (h : ab_X D ca U) : ab_X D ca (U.calling g mk a) := ⟨va_K.moved (u := U) (U := U.calling g mk a) (Vm.Alike.refl U.vm) h.1, fun q hq => va_Nw.same rfl rfl (h.2.1 q hq), va_AO.moved (u := U) (U := U.calling g mk a) (Vm.Alike.refl U.vm) h.2.2⟩
/-- what of a frame stays through its run -/
def ab_Fr (p : Program) (s : State) (m : MethodId) (args : Array Value) (meth : Method) (c : Code) (cc : ByteArray) (nL o : Nat) (ini : Bool) (D : va_G) (ca : Nat → ClassId) (base : Nat) : Prop :=
  p.tables.exec = Jvm.exec ∧ c.code = cc ∧ c.maxLocals = nL ∧ s.vm.findClass (tb_nm o) = some m.cls ∧ (∀ w ∈ tb_W, w.before args s = true) ∧ ab_X D ca s ∧ base ≤ s.heap.size ∧ (ini = true → meth.name = "<init>") ∧ meth.locks = false
theorem tb_nm_cl {ci : Nat} {C : String} {T : u_T} {N : Nat} (h : vwCl[ci]? = some (C, T, N)) : C = tb_nm ci := by
  match ci, h with
  | 0, h => cases h; rfl
  | 1, h => cases h; rfl
  | 2, h => cases h; rfl
  | 3, h => cases h; rfl
  | 4, h => cases h; rfl
  | 5, h => cases h; rfl
  | 6, h => cases h; rfl
  | 7, h => cases h; rfl
  | 8, h => cases h; rfl
  | ci + 9, h => simp [vwCl] at h
section ABN
variable {p : Program} {l : Launch} {e : Env} {R : Room} {s : State} {m : MethodId} {args : Array Value} {below : List Frame} {meth : Method} {c : Code} {D : va_G} {base : Nat} {ca : Nat → ClassId} {nL o : Nat} {ini : Bool} {Z : State → Prop}
variable {cc : ByteArray} {pc x : Nat} {ls : ab_L} {st st' : List ab_V} {sh sh' : ab_Sh} {σ σ' : ab_M} {cells slots : Nat}
set_option maxHeartbeats 4000000 in
theorem ab_get_ok (F : ab_Fr p s m args meth c cc nL o ini D ca base) (hd : decode cc pc = .ok (.getfield x, 3)) (h : ab_get o x st sh σ = some st') (k : ab_K p l e R s m args below meth c D vwCl base ca nL Z (pc + 3) ls st' sh σ cells slots) : ab_K p l e R s m args below meth c D vwCl base ca nL Z pc ls st sh σ cells slots := by
  obtain ⟨hx, hb, hml, hown, hts, hX, hbs, hini, hlk⟩ := F
  unfold ab_get at h
  split at h
  · rename_i ci kf hF
    split at h
    · rename_i q r
      split at h
      · rename_i ci' ff hsq
        obtain ⟨he, hh⟩ := ab_bif h
        clear h
        have he := Nat.eq_of_beq_eq_true he
        subst he
        obtain ⟨⟨C, T, N⟩, h1, h2, h3⟩ := tb_F_ok hF
        obtain ⟨f1, f2, f3, f4⟩ := tb_fam _ _ h1
        intro H locs lsA hz hP hS hL
        have go : ∀ v : ab_V, (ff.mapIdx (fun j r => ab_fv base r (σ q j)))[kf]? = some (ab_conc base v) → some (v :: r) = some st' → W p l e R s m args below meth c H locs cells slots Z (F0 m pc lsA ((.inr (.inr q) :: r : List ab_V).map (ab_conc base))) := by
          intro v hv hst
          cases hst
          exact va_get (D := D) (C := C) (T := T) (N := N) (ref := C) (ci := ci') hx hb hts f1 hown hX.1 hP q (fs := ff.mapIdx (fun j r => ab_fv base r (σ q j))) (by rw [ab_w_at hsq]; rfl) h1 kf h2 (hts _ h3) (fun z hz => by rw [f4 kf h2] at hz; exact hz) hv hd (k H locs lsA hz hP hS hL)
        split at hh
        · rename_i hk
          exact go (.inl (σ q kf)) (by rw [List.getElem?_mapIdx, hk]; rfl) hh
        · rename_i z hk
          exact go (.inr (.inr z)) (by rw [List.getElem?_mapIdx, hk]; rfl) hh
        · cases hh
      · cases h
    · cases h
  · cases h
theorem ab_fit_ok {ty : FieldType} {v : Int32} (h : ab_fit ty v = true) : narrow ty (.int v) = .int v ∧ fits ty (.int v) = true := by
  unfold ab_fit at h
  split at h
  · exact ⟨rfl, rfl⟩
  · rw [Bool.or_eq_true] at h
    rcases h with h | h
    · rw [of_decide_eq_true h]; exact ⟨by decide, by decide⟩
    · rw [of_decide_eq_true h]; exact ⟨by decide, by decide⟩
  · cases h
theorem ab_isR_ok {ty : FieldType} {a : Nat} (h : ab_isR ty = true) : narrow ty (.ref a) = .ref a ∧ fits ty (.ref a) = true := by
  unfold ab_isR at h
  split at h
  · exact ⟨rfl, rfl⟩
  · exact ⟨rfl, rfl⟩
  · cases h
set_option maxHeartbeats 4000000 in
theorem ab_put_ok {M : ab_Me} (ho : me_own M = o) (hi : me_ini M = ini) (F : ab_Fr p s m args meth c cc nL o ini D ca base) (hd : decode cc pc = .ok (.putfield x, 3)) (h : ab_put M x st sh σ = some (st', sh', σ')) (k : ab_K p l e R s m args below meth c D vwCl base ca nL Z (pc + 3) ls st' sh' σ' cells slots) : ab_K p l e R s m args below meth c D vwCl base ca nL Z pc ls st sh σ cells slots := by
  obtain ⟨hx, hb, hml, hown, hts, hX, hbs, hini, hlk⟩ := F
  subst ho
  subst hi
  unfold ab_put at h
  split at h
  · rename_i ci kf hF
    obtain ⟨⟨C, T, N⟩, h1, h2, h3⟩ := tb_F_ok hF
    obtain ⟨f1, f2, f3, f4⟩ := tb_fam _ _ h1
    have hmay : ∀ ci', ci' = ci → ab_may M ci kf = true → (T kf).2.2.2 = false ∨ (meth.name = "<init>" ∧ C = tb_nm (me_own M)) := by
      intro ci' _ hm
      unfold ab_may at hm
      rw [h1] at hm
      simp only [Bool.and_eq_true, Bool.or_eq_true, Bool.not_eq_true'] at hm
      rcases hm.2 with h4 | h4
      · exact Or.inl h4
      · refine Or.inr ⟨hini h4.1, ?_⟩
        have e := Nat.eq_of_beq_eq_true h4.2
        rw [e]
        exact tb_nm_cl h1
    split at h
    · rename_i v q r
      split at h
      · rename_i ci' ff hsq
        obtain ⟨he, hh⟩ := ab_bif h
        clear h
        rw [Bool.and_eq_true, Bool.and_eq_true] at he
        obtain ⟨⟨he1, he2⟩, he3⟩ := he
        have he1 := Nat.eq_of_beq_eq_true he1
        subst he1
        split at hh
        · rename_i hk
          cases hh
          intro H locs lsA hz hP hS hL
          have hl := (List.getElem?_eq_some_iff.mp hk).1
          refine ab_put0 (D := D) (C := C) (T := T) (N := N) (ci := ci') (v := .int v) hx hb hts f1 (ab_fty ci') f2 f3 hown hX.1 hP ab_D hS q (fs := ff.mapIdx (fun j r => ab_fv base r (σ q j))) (by rw [ab_w_at hsq]; rfl) h1 kf h2 (hts _ h3) (f4 kf h2) (hmay ci' rfl he2) (ab_fit_ok he3).1 (ab_fit_ok he3).2 (by simpa using hl) hd (fun H1 locs1 z hP1 hS1 => ?_)
          refine k H1 locs1 lsA (z.trans hz) ?_ hS1 hL
          rw [← ab_w_set (base := base) (ca := ca) (σ := σ) (k := kf) (x := v) hsq rfl]
          have e : ab_cell base ca (.inl (ci', ff)) (upd (σ q) kf v) = .inr (ci', (ff.mapIdx (fun j r => ab_fv base r (σ q j))).set kf (.int v)) := by
            rw [ab_set_field hk]
            rfl
          rw [e]
          exact hP1
        · cases hh
      · cases h
    · rename_i z q r
      split at h
      · rename_i ci' ff hsq
        obtain ⟨he, hh⟩ := ab_bif h
        clear h
        rw [Bool.and_eq_true, Bool.and_eq_true] at he
        obtain ⟨⟨he1, he2⟩, he3⟩ := he
        have he1 := Nat.eq_of_beq_eq_true he1
        subst he1
        split at hh
        · rename_i w hk
          cases hh
          intro H locs lsA hz hP hS hL
          have hl := (List.getElem?_eq_some_iff.mp hk).1
          refine ab_put0 (D := D) (C := C) (T := T) (N := N) (ci := ci') (v := .ref (base + z)) hx hb hts f1 (ab_fty ci') f2 f3 hown hX.1 hP ab_D hS q (fs := ff.mapIdx (fun j r => ab_fv base r (σ q j))) (by rw [ab_w_at hsq]; rfl) h1 kf h2 (hts _ h3) (f4 kf h2) (hmay ci' rfl he2) (ab_isR_ok he3).1 (ab_isR_ok he3).2 (by simpa using hl) hd (fun H1 locs1 z1 hP1 hS1 => ?_)
          refine k H1 locs1 lsA (by rw [List.length_set]; exact z1.trans hz) ?_ hS1 hL
          rw [← ab_w_setR (base := base) (ca := ca) (σ := σ) (c' := .inl (ci', ff.set kf (some (some z)))) hsq rfl]
          have e : ab_cell base ca (.inl (ci', ff.set kf (some (some z)))) (σ q) = .inr (ci', (ff.mapIdx (fun j r => ab_fv base r (σ q j))).set kf (.ref (base + z))) := by
            rw [ab_set_fieldR hl]
            rfl
          rw [e]
          exact hP1
        · cases hh
      · cases h
    · cases h
  · cases h
theorem ab_in_ok {v : Int32} {n : Nat} (h : ab_in v n = true) : vp_in v n := by
  unfold ab_in at h
  rw [Bool.and_eq_true, Bool.not_eq_true'] at h
  have h2 : v.toNatClampNeg < n := Nat.le_of_ble_eq_true h.2
  exact fun hc => hc.elim (fun q => of_decide_eq_false h.1 q) (fun q => by omega)
theorem ab_load_ok {i : Jvm.ClassFile.Instr} {ty : FieldType} (hi : ab_ald i = some ty) (F : ab_Fr p s m args meth c cc nL o ini D ca base) (hd : decode cc pc = .ok (i, 1)) (h : ab_load ty st sh σ = some st') (k : ab_K p l e R s m args below meth c D vwCl base ca nL Z (pc + 1) ls st' sh σ cells slots) : ab_K p l e R s m args below meth c D vwCl base ca nL Z pc ls st sh σ cells slots := by
  obtain ⟨hx, hb, hml, hown, hts, hX, hbs, hini, hlk⟩ := F
  unfold ab_load at h
  split at h
  · rename_i v q r
    split at h
    · rename_i t n hsq
      obtain ⟨he, hh⟩ := ab_bif h
      clear h
      cases hh
      rw [Bool.and_eq_true] at he
      intro H locs lsA hz hP hS hL
      exact ab_ald0 hi hx hb hX.1 hP q t (cA := ca t) (n := n) (f := σ q) (by rw [ab_w_at hsq]; rfl) (ab_T_at (of_decide_eq_true he.1)) (ab_in_ok he.2) hd (k H locs lsA hz hP hS hL)
    · cases h
  · cases h
theorem ab_stor_ok {i : Jvm.ClassFile.Instr} {ty : FieldType} (hi : ab_ast i = some ty) (F : ab_Fr p s m args meth c cc nL o ini D ca base) (hd : decode cc pc = .ok (i, 1)) (h : ab_stor ty st sh σ = some (st', σ')) (k : ab_K p l e R s m args below meth c D vwCl base ca nL Z (pc + 1) ls st' sh σ' cells slots) : ab_K p l e R s m args below meth c D vwCl base ca nL Z pc ls st sh σ cells slots := by
  obtain ⟨hx, hb, hml, hown, hts, hX, hbs, hini, hlk⟩ := F
  unfold ab_stor at h
  split at h
  · rename_i y v q r
    split at h
    · rename_i t n hsq
      obtain ⟨he, hh⟩ := ab_bif h
      clear h
      cases hh
      rw [Bool.and_eq_true] at he
      intro H locs lsA hz hP hS hL
      refine ab_ast0 hi hx hb hX.1 hP ab_D hS q t (cA := ca t) (n := n) (f := σ q) (by rw [ab_w_at hsq]; rfl) (ab_T_at (of_decide_eq_true he.1)) (ab_in_ok he.2) hd (fun H1 locs1 z hP1 hS1 => ?_)
      refine k H1 locs1 lsA (z.trans hz) ?_ hS1 hL
      rw [← ab_w_set (base := base) (ca := ca) (σ := σ) hsq rfl]
      exact hP1
    · cases h
  · cases h
theorem ab_loadA_ok (F : ab_Fr p s m args meth c cc nL o ini D ca base) (hd : decode cc pc = .ok (.aaload, 1)) (h : ab_loadA st sh = some st') (k : ab_K p l e R s m args below meth c D vwCl base ca nL Z (pc + 1) ls st' sh σ cells slots) : ab_K p l e R s m args below meth c D vwCl base ca nL Z pc ls st sh σ cells slots := by
  obtain ⟨hx, hb, hml, hown, hts, hX, hbs, hini, hlk⟩ := F
  unfold ab_loadA at h
  split at h
  · rename_i v q r
    split at h
    · rename_i t g hsq
      obtain ⟨he, hh⟩ := ab_bif h
      clear h
      rw [Bool.and_eq_true] at he
      obtain ⟨ht, hin⟩ := he
      unfold ab_tob at ht
      split at ht
      · rename_i C hC
        split at hh
        · rename_i z hz2
          cases hh
          intro H locs lsA hz hP hS hL
          refine va_aldq hx hb hX.1 hP q t (cA := ca t) (C := C) (n := g.length) (f := fun j => (g.getD j none).map (fun q => base + q)) (by rw [ab_w_at hsq]; rfl) (ab_T_at hC) (ab_in_ok hin) hd ?_
          have e : va_rf ((g.getD v.toNatClampNeg none).map (fun q => base + q)) = .ref (base + z) := by rw [hz2]; rfl
          show W _ _ _ _ _ _ _ _ _ _ _ _ _ _ _ (F0 m (pc + 1) lsA (va_rf ((g.getD v.toNatClampNeg none).map (fun q => base + q)) :: _))
          rw [e]
          exact k H locs lsA hz hP hS hL
        · cases hh
      · cases ht
    · cases h
  · cases h
theorem ab_storA_ok (F : ab_Fr p s m args meth c cc nL o ini D ca base) (hd : decode cc pc = .ok (.aastore, 1)) (h : ab_storA st sh = some (st', sh')) (k : ab_K p l e R s m args below meth c D vwCl base ca nL Z (pc + 1) ls st' sh' σ cells slots) : ab_K p l e R s m args below meth c D vwCl base ca nL Z pc ls st sh σ cells slots := by
  obtain ⟨hx, hb, hml, hown, hts, hX, hbs, hini, hlk⟩ := F
  unfold ab_storA at h
  split at h
  · rename_i z v q r
    split at h
    · rename_i t g ci ff hsq hsz
      obtain ⟨he, hh⟩ := ab_bif h
      clear h
      cases hh
      rw [Bool.and_eq_true] at he
      obtain ⟨ht, hin⟩ := he
      unfold ab_teA at ht
      split at ht
      · rename_i C hC
        split at ht
        · rename_i rr hr
          have hCr := of_decide_eq_true ht
          subst hCr
          intro H locs lsA hz hP hS hL
          have hin2 := ab_in_ok hin
          have hlt : v.toNatClampNeg < g.length := Nat.not_le.mp fun q => hin2 (Or.inr q)
          refine ab_aast0 hx hb hX.1 hP ab_D hS q t z ci (cA := ca t) (r := rr) (n := g.length) (f := fun j => (g.getD j none).map (fun q => base + q)) (by rw [ab_w_at hsq]; rfl) (ab_T_at hC) (by rw [ab_w_at hsz]; rfl) hr hin2 hd (fun H1 locs1 z1 hP1 hS1 => ?_)
          refine k H1 locs1 lsA (by rw [List.length_set]; exact z1.trans hz) ?_ hS1 hL
          rw [← ab_w_setR (base := base) (ca := ca) (σ := σ) (c' := .inr (.inr (t, g.set v.toNatClampNeg (some z)))) hsq rfl]
          have e : ab_cell base ca (.inr (.inr (t, g.set v.toNatClampNeg (some z)))) (σ q) = .inl (ca t, g.length, .inr (.inr (.inr (.inr (va_up (fun j => (g.getD j none).map (fun q => base + q)) v.toNatClampNeg (some (base + z))))))) := by
            unfold ab_cell
            simp only [List.length_set]
            congr 7
            funext j
            unfold va_up
            by_cases hj : j = v.toNatClampNeg
            · subst hj
              simp [List.getD_eq_getElem?_getD, List.getElem?_set_self hlt]
            · simp [List.getD_eq_getElem?_getD, List.getElem?_set_ne (Ne.symm hj), hj]
          rw [e]
          exact hP1
        · cases ht
      · cases ht
    · cases h
  · cases h
theorem ab_len_ok (F : ab_Fr p s m args meth c cc nL o ini D ca base) (hd : decode cc pc = .ok (.arraylength, 1)) (h : ab_len st sh = some st') (k : ab_K p l e R s m args below meth c D vwCl base ca nL Z (pc + 1) ls st' sh σ cells slots) : ab_K p l e R s m args below meth c D vwCl base ca nL Z pc ls st sh σ cells slots := by
  obtain ⟨hx, hb, hml, hown, hts, hX, hbs, hini, hlk⟩ := F
  unfold ab_len at h
  split at h
  · rename_i q r
    split at h
    · rename_i t n hsq
      obtain ⟨he, hh⟩ := ab_bif h
      clear h
      cases hh
      have ht : t < tb_A.length := Nat.le_of_ble_eq_true he
      intro H locs lsA hz hP hS hL
      exact va_alen hx hb hX.1 hP q t (cA := ca t) (x := (n, .inl (σ q))) (by rw [ab_w_at hsq]; rfl) (ab_T_at (List.getElem?_eq_getElem ht)) rfl hd (k H locs lsA hz hP hS hL)
    · rename_i t g hsq
      obtain ⟨he, hh⟩ := ab_bif h
      clear h
      cases hh
      have ht : t < tb_A.length := Nat.le_of_ble_eq_true he
      intro H locs lsA hz hP hS hL
      exact va_alen hx hb hX.1 hP q t (cA := ca t) (x := (g.length, .inr (.inr (.inr (.inr (fun j => (g.getD j none).map (fun q => base + q))))))) (by rw [ab_w_at hsq]; rfl) (ab_T_at (List.getElem?_eq_getElem ht)) rfl hd (k H locs lsA hz hP hS hL)
    · cases h
  · cases h
end ABN

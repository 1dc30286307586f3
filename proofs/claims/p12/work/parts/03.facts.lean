theorem ab_all12 {α : Type} {L : List (List α)} {P : Nat → α → Bool} (hl : L.length = 12) (h : (List.range 12).all (fun o => (L.getD o []).all (P o)) = true) {o : Nat} {r : α} (hr : r ∈ L.getD o []) : P o r = true := by
  by_cases ho : o < 12
  · exact List.all_eq_true.mp (List.all_eq_true.mp h o (List.mem_range.mpr ho)) r hr
  · have e : L.getD o [] = [] := by
      rw [List.getD_eq_getElem?_getD, List.getElem?_eq_none (by omega)]
      rfl
    rw [e] at hr
    cases hr
def tb_hw (i : Nat) (w : Cond) : Bool := decide (lw_tbl[i]? = some w) && goodWord w
theorem tb_hw_in {i : Nat} {w : Cond} (h : tb_hw i w = true) : w ∈ tb_W := by
  unfold tb_hw at h
  rw [Bool.and_eq_true] at h
  exact tb_in (of_decide_eq_true h.1) h.2
def tb_fP (o : Nat) (r : Nat × Nat × Nat × Nat) : Bool := match vwCl[r.2.1]? with
  | some q => Nat.blt r.2.2.1 q.2.2 && tb_hw r.2.2.2 (.fieldLink (tb_nm o) r.1 q.1 (q.2.1 r.2.2.1).2.1 (q.2.1 r.2.2.1).2.2.1)
  | none => false
set_option maxRecDepth 100000 in
theorem tb_fl_all : (List.range 12).all (fun o => (tb_fl.getD o []).all (tb_fP o)) = true := by decide +kernel
theorem tb_F_ok {o x ci k : Nat} (h : tb_F o x = some (ci, k)) : ∃ r : vw_C, vwCl[ci]? = some r ∧ k < r.2.2 ∧ Cond.fieldLink (tb_nm o) x r.1 (r.2.1 k).2.1 (r.2.1 k).2.2.1 ∈ tb_W := by
  unfold tb_F at h
  split at h
  · rename_i q hq
    cases h
    have h1 := ab_all12 (L := tb_fl) (P := tb_fP) rfl tb_fl_all (List.mem_of_find?_eq_some hq)
    have h2 : q.1 = x := by
      have h9 := List.find?_some hq
      exact Nat.eq_of_beq_eq_true h9
    subst h2
    unfold tb_fP at h1
    split at h1
    · rename_i r hr
      rw [Bool.and_eq_true] at h1
      exact ⟨r, hr, Nat.le_of_ble_eq_true h1.1, tb_hw_in h1.2⟩
    · cases h1
  · cases h
def tb_dn (M : ab_Me) (n : Nat) : Bool := decide ((parseMethodDescriptor (me_y M).desc).map (fun d => d.parameters.length) = some n)
def tb_yP (o : Nat) (r : Nat × Nat × Nat × Nat × Nat × Nat × Nat × Bool) : Bool := match tb_M[r.2.2.1]? with
  | some M => tb_hw r.2.2.2.2.2.2.1 (.initialized (me_y M).cls) && (match r.2.1 with
    | 0 => tb_hw r.2.2.2.2.1 (.static (me_y M)) && tb_dn M (me_na M) && (bif r.2.2.2.2.2.2.2 then (match tb_nest[r.2.2.2.1]? with
        | some q => decide (q.1 = tb_nm o) && decide (q.2.1 = r.1) && decide (q.2.2.1 = me_y M)
        | none => false) else tb_hw r.2.2.2.1 (.methodLink (tb_nm o) r.1 (me_y M)))
    | 1 => tb_hw r.2.2.2.2.1 (.instanceMethod (me_y M)) && tb_hw r.2.2.2.2.2.1 (.selects (me_y M).cls (me_y M) (me_y M)) && tb_hw r.2.2.2.1 (.methodLink (tb_nm o) r.1 (me_y M)) && tb_dn M (me_na M - 1) && Nat.blt 0 (me_na M)
    | _ => tb_hw r.2.2.2.2.1 (.instanceMethod (me_y M)) && tb_hw r.2.2.2.1 (.methodLink (tb_nm o) r.1 (me_y M)) && tb_dn M (me_na M - 1) && decide ((me_y M).name = "<init>") && decide (me_ret M = none) && Nat.blt 0 (me_na M))
  | none => false
set_option maxRecDepth 100000 in
theorem tb_cl_all : (List.range 12).all (fun o => (tb_cl.getD o []).all (tb_yP o)) = true := by decide +kernel
/-- what a call needs of the tables -/
def ab_Lk (kd o x : Nat) (M : ab_Me) : Prop := Cond.initialized (me_y M).cls ∈ tb_W ∧ (match kd with
  | 0 => Cond.static (me_y M) ∈ tb_W ∧ tb_dn M (me_na M) = true ∧ (Cond.methodLink (tb_nm o) x (me_y M) ∈ tb_W ∨ ∃ q ∈ tb_nest, q.1 = tb_nm o ∧ q.2.1 = x ∧ q.2.2.1 = me_y M)
  | 1 => Cond.instanceMethod (me_y M) ∈ tb_W ∧ Cond.selects (me_y M).cls (me_y M) (me_y M) ∈ tb_W ∧ Cond.methodLink (tb_nm o) x (me_y M) ∈ tb_W ∧ tb_dn M (me_na M - 1) = true ∧ 0 < me_na M
  | _ => Cond.instanceMethod (me_y M) ∈ tb_W ∧ Cond.methodLink (tb_nm o) x (me_y M) ∈ tb_W ∧ tb_dn M (me_na M - 1) = true ∧ (me_y M).name = "<init>" ∧ me_ret M = none ∧ 0 < me_na M)
theorem tb_Y_ok {kd o x y : Nat} (h : tb_Y kd o x = some y) : ∃ M, tb_M[y]? = some M ∧ ab_Lk kd o x M := by
  unfold tb_Y at h
  split at h
  · rename_i q hq
    cases hk : Nat.beq q.2.1 kd with
    | false => rw [hk] at h; cases h
    | true =>
      rw [hk] at h
      cases h
      have hk := Nat.eq_of_beq_eq_true hk
      subst hk
      have h1 := ab_all12 (L := tb_cl) (P := tb_yP) rfl tb_cl_all (List.mem_of_find?_eq_some hq)
      have h2 : q.1 = x := by
        have h9 := List.find?_some hq
        exact Nat.eq_of_beq_eq_true h9
      subst h2
      unfold tb_yP at h1
      split at h1
      · rename_i M hM
        refine ⟨M, hM, ?_⟩
        rw [Bool.and_eq_true] at h1
        obtain ⟨h1, h3⟩ := h1
        refine ⟨tb_hw_in h1, ?_⟩
        generalize q.2.1 = kd at h3 ⊢
        match kd, h3 with
        | 0, h3 =>
          simp only [Bool.and_eq_true] at h3
          refine ⟨tb_hw_in h3.1.1, h3.1.2, ?_⟩
          have h4 := h3.2
          cases hn : q.2.2.2.2.2.2.2 with
          | true =>
            rw [hn] at h4
            simp only [cond_true] at h4
            split at h4
            · rename_i z hz
              simp only [Bool.and_eq_true, decide_eq_true_eq] at h4
              exact Or.inr ⟨z, List.mem_of_getElem? hz, h4.1.1, h4.1.2, h4.2⟩
            · cases h4
          | false =>
            rw [hn] at h4
            exact Or.inl (tb_hw_in h4)
        | 1, h3 =>
          simp only [Bool.and_eq_true] at h3
          exact ⟨tb_hw_in h3.1.1.1.1, tb_hw_in h3.1.1.1.2, tb_hw_in h3.1.1.2, h3.1.2, Nat.le_of_ble_eq_true h3.2⟩
        | n + 2, h3 =>
          simp only [Bool.and_eq_true, decide_eq_true_eq] at h3
          exact ⟨tb_hw_in h3.1.1.1.1.1, tb_hw_in h3.1.1.1.1.2, h3.1.1.1.2, h3.1.1.2, h3.1.2, Nat.le_of_ble_eq_true h3.2⟩
      · cases h1
  · cases h
theorem tb_O_ok {o x : Nat} (h : tb_O o x = true) : Cond.methodLink (tb_nm o) x objectInit ∈ tb_W := by
  have hall : (List.range 12).all (fun o => (tb_ob.getD o []).all (fun r => tb_hw r.2 (.methodLink (tb_nm o) r.1 objectInit))) = true := by decide +kernel
  unfold tb_O at h
  obtain ⟨r, hr, hx⟩ := List.any_eq_true.mp h
  have h2 : r.1 = x := Nat.eq_of_beq_eq_true hx
  subst h2
  exact tb_hw_in (ab_all12 (L := tb_ob) (P := fun o r => tb_hw r.2 (.methodLink (tb_nm o) r.1 objectInit)) rfl hall hr)
def tb_nP (o : Nat) (r : Nat × Nat × Nat × Nat × Nat) : Bool := match vwCl[r.2.1]? with
  | some q => tb_hw r.2.2.1 (.classLink (tb_nm o) r.1 q.1) && tb_hw r.2.2.2.1 (.instantiable q.1 q.2.2) && tb_hw r.2.2.2.2 (.initialized q.1)
  | none => false
set_option maxRecDepth 100000 in
theorem tb_nw_all : (List.range 12).all (fun o => (tb_nw.getD o []).all (tb_nP o)) = true := by decide +kernel
theorem tb_N_ok {o x ci : Nat} (h : tb_N o x = some ci) : ∃ r : vw_C, vwCl[ci]? = some r ∧ Cond.classLink (tb_nm o) x r.1 ∈ tb_W ∧ Cond.instantiable r.1 r.2.2 ∈ tb_W ∧ Cond.initialized r.1 ∈ tb_W := by
  unfold tb_N at h
  split at h
  · rename_i q hq
    cases h
    have h1 := ab_all12 (L := tb_nw) (P := tb_nP) rfl tb_nw_all (List.mem_of_find?_eq_some hq)
    have h2 : q.1 = x := by
      have h9 := List.find?_some hq
      exact Nat.eq_of_beq_eq_true h9
    subst h2
    unfold tb_nP at h1
    split at h1
    · rename_i r hr
      rw [Bool.and_eq_true, Bool.and_eq_true] at h1
      exact ⟨r, hr, tb_hw_in h1.1.1, tb_hw_in h1.1.2, tb_hw_in h1.2⟩
    · cases h1
  · cases h
theorem tb_Q_ok {o x t : Nat} (h : tb_Q o x = some t) : t = 3 ∧ Cond.classLink (tb_nm o) x "StructureFinder$Clause" ∈ tb_W := by
  have hall : (List.range 12).all (fun o => (tb_qw.getD o []).all (fun r => Nat.beq r.2.1 3 && tb_hw r.2.2 (.classLink (tb_nm o) r.1 "StructureFinder$Clause"))) = true := by decide +kernel
  unfold tb_Q at h
  split at h
  · rename_i q hq
    cases h
    have h1 := ab_all12 (L := tb_qw) (P := fun o r => Nat.beq r.2.1 3 && tb_hw r.2.2 (.classLink (tb_nm o) r.1 "StructureFinder$Clause")) rfl hall (List.mem_of_find?_eq_some hq)
    have h2 : q.1 = x := by
      have h9 := List.find?_some hq
      exact Nat.eq_of_beq_eq_true h9
    subst h2
    rw [Bool.and_eq_true] at h1
    exact ⟨Nat.eq_of_beq_eq_true h1.1, tb_hw_in h1.2⟩
  · cases h
theorem tb_I_ok {o x : Nat} {v : Int32} (h : tb_I o x = some v) : Cond.constant (tb_nm o) x v ∈ tb_W := by
  have hall : (List.range 12).all (fun o => (tb_iw.getD o []).all (fun r => tb_hw r.2.2 (.constant (tb_nm o) r.1 r.2.1))) = true := by decide +kernel
  unfold tb_I at h
  split at h
  · rename_i q hq
    cases h
    have h1 := ab_all12 (L := tb_iw) (P := fun o r => tb_hw r.2.2 (.constant (tb_nm o) r.1 r.2.1)) rfl hall (List.mem_of_find?_eq_some hq)
    have h2 : q.1 = x := by
      have h9 := List.find?_some hq
      exact Nat.eq_of_beq_eq_true h9
    subst h2
    exact tb_hw_in h1
  · cases h
theorem tb_J_ok {o x : Nat} {v : Int64} (h : tb_J o x = some v) : Cond.constantLong (tb_nm o) x v ∈ tb_W := by
  have hall : (List.range 12).all (fun o => (tb_jw.getD o []).all (fun r => tb_hw r.2.2 (.constantLong (tb_nm o) r.1 r.2.1))) = true := by decide +kernel
  unfold tb_J at h
  split at h
  · rename_i q hq
    cases h
    have h1 := ab_all12 (L := tb_jw) (P := fun o r => tb_hw r.2.2 (.constantLong (tb_nm o) r.1 r.2.1)) rfl hall (List.mem_of_find?_eq_some hq)
    have h2 : q.1 = x := by
      have h9 := List.find?_some hq
      exact Nat.eq_of_beq_eq_true h9
    subst h2
    exact tb_hw_in h1
  · cases h
def tb_xn (b : Bool) : MethodName := bif b then Lib.Math.max.name else Lib.Math.min.name
theorem tb_X_ok {o x : Nat} {b : Bool} (h : tb_X o x = some b) : Cond.methodLink (tb_nm o) x (tb_xn b) ∈ tb_W := by
  have hall : (List.range 12).all (fun o => (tb_xw.getD o []).all (fun r => tb_hw r.2.2 (.methodLink (tb_nm o) r.1 (tb_xn r.2.1)))) = true := by decide +kernel
  unfold tb_X at h
  split at h
  · rename_i q hq
    cases h
    have h1 := ab_all12 (L := tb_xw) (P := fun o r => tb_hw r.2.2 (.methodLink (tb_nm o) r.1 (tb_xn r.2.1))) rfl hall (List.mem_of_find?_eq_some hq)
    have h2 : q.1 = x := by
      have h9 := List.find?_some hq
      exact Nat.eq_of_beq_eq_true h9
    subst h2
    exact h1 |> tb_hw_in
  · cases h
theorem tb_xmax : Cond.static Lib.Math.max.name ∈ tb_W := tb_hw_in (i := 437) (by decide +kernel)
theorem tb_xmin : Cond.static Lib.Math.min.name ∈ tb_W := tb_hw_in (i := 480) (by decide +kernel)
theorem tb_xi : Cond.initialized "java/lang/Math" ∈ tb_W := tb_hw_in (i := 43) (by decide +kernel)
set_option maxRecDepth 100000 in
theorem tb_xcmax : Cond.code Lib.Math.max.name Lib.Math.max.code 2 (some .int) ∈ tb_W := tb_in (i := 438) rfl rfl
set_option maxRecDepth 100000 in
theorem tb_xcmin : Cond.code Lib.Math.min.name Lib.Math.min.code 2 (some .int) ∈ tb_W := tb_in (i := 481) rfl rfl
theorem tb_ac_int : Cond.arrayClass .int ∈ tb_W := tb_hw_in (i := 65) (by decide +kernel)
theorem tb_ac_char : Cond.arrayClass .char ∈ tb_W := tb_hw_in (i := 79) (by decide +kernel)
theorem tb_ac_boolean : Cond.arrayClass .boolean ∈ tb_W := tb_hw_in (i := 103) (by decide +kernel)
theorem tb_ao : Cond.arrayOver (.object "StructureFinder$Clause") ∈ lw_tbl := List.mem_of_getElem? (i := 87) (by decide +kernel)
theorem tb_oi : Cond.instanceMethod objectInit ∈ tb_W := tb_hw_in (i := 50) (by decide +kernel)
set_option maxRecDepth 100000 in
theorem tb_oc : Cond.code objectInit ⟨#[0xb1]⟩ 1 none ∈ tb_W := tb_in (i := 51) rfl rfl
set_option maxRecDepth 100000 in
theorem tb_nest_all : ∀ q ∈ tb_nest, lw_tbl[q.2.2.2.2]? = some (.methodLinkNest q.1 q.2.1 q.2.2.1 q.2.2.2.1) := by decide +kernel
set_option maxRecDepth 100000 in
theorem tk_0 : Cond.code (me_y mX7_init) (me_b mX7_init) (me_nl mX7_init) (me_ret mX7_init) ∈ tb_W := tb_in (i := 48) rfl rfl
set_option maxRecDepth 100000 in
theorem tk_1 : Cond.code (me_y mX5_init) (me_b mX5_init) (me_nl mX5_init) (me_ret mX5_init) ∈ tb_W := tb_in (i := 56) rfl rfl
set_option maxRecDepth 100000 in
theorem tk_2 : Cond.code (me_y mJ7_fill_53178) (me_b mJ7_fill_53178) (me_nl mJ7_fill_53178) (me_ret mJ7_fill_53178) ∈ tb_W := tb_in (i := 60) rfl rfl
set_option maxRecDepth 100000 in
theorem tk_3 : Cond.code (me_y mX0_init) (me_b mX0_init) (me_nl mX0_init) (me_ret mX0_init) ∈ tb_W := tb_in (i := 70) rfl rfl
set_option maxRecDepth 100000 in
theorem tk_4 : Cond.code (me_y mX2_init) (me_b mX2_init) (me_nl mX2_init) (me_ret mX2_init) ∈ tb_W := tb_in (i := 84) rfl rfl
set_option maxRecDepth 100000 in
theorem tk_5 : Cond.code (me_y mX1_init) (me_b mX1_init) (me_nl mX1_init) (me_ret mX1_init) ∈ tb_W := tb_in (i := 91) rfl rfl
set_option maxRecDepth 100000 in
theorem tk_6 : Cond.code (me_y mX6_init) (me_b mX6_init) (me_nl mX6_init) (me_ret mX6_init) ∈ tb_W := tb_in (i := 117) rfl rfl
set_option maxRecDepth 100000 in
theorem tk_7 : Cond.code (me_y mX3_init) (me_b mX3_init) (me_nl mX3_init) (me_ret mX3_init) ∈ tb_W := tb_in (i := 142) rfl rfl
set_option maxRecDepth 100000 in
theorem tk_8 : Cond.code (me_y mX3_forgetLatest) (me_b mX3_forgetLatest) (me_nl mX3_forgetLatest) (me_ret mX3_forgetLatest) ∈ tb_W := tb_in (i := 147) rfl rfl
set_option maxRecDepth 100000 in
theorem tk_9 : Cond.code (me_y mX4_init) (me_b mX4_init) (me_nl mX4_init) (me_ret mX4_init) ∈ tb_W := tb_in (i := 177) rfl rfl
set_option maxRecDepth 100000 in
theorem tk_10 : Cond.code (me_y mX7_symbol) (me_b mX7_symbol) (me_nl mX7_symbol) (me_ret mX7_symbol) ∈ tb_W := tb_in (i := 235) rfl rfl
set_option maxRecDepth 100000 in
theorem tk_11 : Cond.code (me_y mX7_codeOf) (me_b mX7_codeOf) (me_nl mX7_codeOf) (me_ret mX7_codeOf) ∈ tb_W := tb_in (i := 238) rfl rfl
set_option maxRecDepth 100000 in
theorem tk_12 : Cond.code (me_y mX5_define) (me_b mX5_define) (me_nl mX5_define) (me_ret mX5_define) ∈ tb_W := tb_in (i := 242) rfl rfl
set_option maxRecDepth 100000 in
theorem tk_13 : Cond.code (me_y mX2_forgetAll) (me_b mX2_forgetAll) (me_nl mX2_forgetAll) (me_ret mX2_forgetAll) ∈ tb_W := tb_in (i := 246) rfl rfl
set_option maxRecDepth 100000 in
theorem tk_14 : Cond.code (me_y mX7_type) (me_b mX7_type) (me_nl mX7_type) (me_ret mX7_type) ∈ tb_W := tb_in (i := 250) rfl rfl
set_option maxRecDepth 100000 in
theorem tk_15 : Cond.code (me_y mX7_areAllVisible) (me_b mX7_areAllVisible) (me_nl mX7_areAllVisible) (me_ret mX7_areAllVisible) ∈ tb_W := tb_in (i := 253) rfl rfl
set_option maxRecDepth 100000 in
theorem tk_16 : Cond.code (me_y mX7_byteAt) (me_b mX7_byteAt) (me_nl mX7_byteAt) (me_ret mX7_byteAt) ∈ tb_W := tb_in (i := 256) rfl rfl
set_option maxRecDepth 100000 in
theorem tk_17 : Cond.code (me_y mX0_hasRoomFor) (me_b mX0_hasRoomFor) (me_nl mX0_hasRoomFor) (me_ret mX0_hasRoomFor) ∈ tb_W := tb_in (i := 261) rfl rfl
set_option maxRecDepth 100000 in
theorem tk_18 : Cond.code (me_y mX0_append) (me_b mX0_append) (me_nl mX0_append) (me_ret mX0_append) ∈ tb_W := tb_in (i := 265) rfl rfl
set_option maxRecDepth 100000 in
theorem tk_19 : Cond.code (me_y mX0_length) (me_b mX0_length) (me_nl mX0_length) (me_ret mX0_length) ∈ tb_W := tb_in (i := 269) rfl rfl
set_option maxRecDepth 100000 in
theorem tk_20 : Cond.code (me_y mX7_clause) (me_b mX7_clause) (me_nl mX7_clause) (me_ret mX7_clause) ∈ tb_W := tb_in (i := 273) rfl rfl
set_option maxRecDepth 100000 in
theorem tk_21 : Cond.code (me_y mX2_free) (me_b mX2_free) (me_nl mX2_free) (me_ret mX2_free) ∈ tb_W := tb_in (i := 277) rfl rfl
set_option maxRecDepth 100000 in
theorem tk_22 : Cond.code (me_y mX2_at) (me_b mX2_at) (me_nl mX2_at) (me_ret mX2_at) ∈ tb_W := tb_in (i := 281) rfl rfl
set_option maxRecDepth 100000 in
theorem tk_23 : Cond.code (me_y mX1_read) (me_b mX1_read) (me_nl mX1_read) (me_ret mX1_read) ∈ tb_W := tb_in (i := 285) rfl rfl
set_option maxRecDepth 100000 in
theorem tk_24 : Cond.code (me_y mX1_forgetText) (me_b mX1_forgetText) (me_nl mX1_forgetText) (me_ret mX1_forgetText) ∈ tb_W := tb_in (i := 289) rfl rfl
set_option maxRecDepth 100000 in
theorem tk_25 : Cond.code (me_y mX0_at) (me_b mX0_at) (me_nl mX0_at) (me_ret mX0_at) ∈ tb_W := tb_in (i := 294) rfl rfl
set_option maxRecDepth 100000 in
theorem tk_26 : Cond.code (me_y mX1_after) (me_b mX1_after) (me_nl mX1_after) (me_ret mX1_after) ∈ tb_W := tb_in (i := 298) rfl rfl
set_option maxRecDepth 100000 in
theorem tk_27 : Cond.code (me_y mX1_afterAtomBegins) (me_b mX1_afterAtomBegins) (me_nl mX1_afterAtomBegins) (me_ret mX1_afterAtomBegins) ∈ tb_W := tb_in (i := 301) rfl rfl
set_option maxRecDepth 100000 in
theorem tk_28 : Cond.code (me_y mX7_isPredicate) (me_b mX7_isPredicate) (me_nl mX7_isPredicate) (me_ret mX7_isPredicate) ∈ tb_W := tb_in (i := 304) rfl rfl
set_option maxRecDepth 100000 in
theorem tk_29 : Cond.code (me_y mX5_arityOf) (me_b mX5_arityOf) (me_nl mX5_arityOf) (me_ret mX5_arityOf) ∈ tb_W := tb_in (i := 308) rfl rfl
set_option maxRecDepth 100000 in
theorem tk_30 : Cond.code (me_y mX1_afterTermBegins) (me_b mX1_afterTermBegins) (me_nl mX1_afterTermBegins) (me_ret mX1_afterTermBegins) ∈ tb_W := tb_in (i := 311) rfl rfl
set_option maxRecDepth 100000 in
theorem tk_31 : Cond.code (me_y mX7_isVariable) (me_b mX7_isVariable) (me_nl mX7_isVariable) (me_ret mX7_isVariable) ∈ tb_W := tb_in (i := 314) rfl rfl
set_option maxRecDepth 100000 in
theorem tk_32 : Cond.code (me_y mX7_isFunction) (me_b mX7_isFunction) (me_nl mX7_isFunction) (me_ret mX7_isFunction) ∈ tb_W := tb_in (i := 317) rfl rfl
set_option maxRecDepth 100000 in
theorem tk_33 : Cond.code (me_y mX1_keep) (me_b mX1_keep) (me_nl mX1_keep) (me_ret mX1_keep) ∈ tb_W := tb_in (i := 321) rfl rfl
set_option maxRecDepth 100000 in
theorem tk_34 : Cond.code (me_y mX0_empty) (me_b mX0_empty) (me_nl mX0_empty) (me_ret mX0_empty) ∈ tb_W := tb_in (i := 325) rfl rfl
set_option maxRecDepth 100000 in
theorem tk_35 : Cond.code (me_y mX2_isFull) (me_b mX2_isFull) (me_nl mX2_isFull) (me_ret mX2_isFull) ∈ tb_W := tb_in (i := 329) rfl rfl
set_option maxRecDepth 100000 in
theorem tk_36 : Cond.code (me_y mX2_keepFree) (me_b mX2_keepFree) (me_nl mX2_keepFree) (me_ret mX2_keepFree) ∈ tb_W := tb_in (i := 333) rfl rfl
set_option maxRecDepth 100000 in
theorem tk_37 : Cond.code (me_y mX7_drop) (me_b mX7_drop) (me_nl mX7_drop) (me_ret mX7_drop) ∈ tb_W := tb_in (i := 338) rfl rfl
set_option maxRecDepth 100000 in
theorem tk_38 : Cond.code (me_y mX2_count) (me_b mX2_count) (me_nl mX2_count) (me_ret mX2_count) ∈ tb_W := tb_in (i := 342) rfl rfl
set_option maxRecDepth 100000 in
theorem tk_39 : Cond.code (me_y mX2_forgetLast) (me_b mX2_forgetLast) (me_nl mX2_forgetLast) (me_ret mX2_forgetLast) ∈ tb_W := tb_in (i := 346) rfl rfl
set_option maxRecDepth 100000 in
theorem tk_40 : Cond.code (me_y mX7_find) (me_b mX7_find) (me_nl mX7_find) (me_ret mX7_find) ∈ tb_W := tb_in (i := 350) rfl rfl
set_option maxRecDepth 100000 in
theorem tk_41 : Cond.code (me_y mX4_countAnew) (me_b mX4_countAnew) (me_nl mX4_countAnew) (me_ret mX4_countAnew) ∈ tb_W := tb_in (i := 354) rfl rfl
set_option maxRecDepth 100000 in
theorem tk_42 : Cond.code (me_y mX4_begin) (me_b mX4_begin) (me_nl mX4_begin) (me_ret mX4_begin) ∈ tb_W := tb_in (i := 358) rfl rfl
set_option maxRecDepth 100000 in
theorem tk_43 : Cond.code (me_y mX6_lay) (me_b mX6_lay) (me_nl mX6_lay) (me_ret mX6_lay) ∈ tb_W := tb_in (i := 362) rfl rfl
set_option maxRecDepth 100000 in
theorem tk_44 : Cond.code (me_y mX6_layCells) (me_b mX6_layCells) (me_nl mX6_layCells) (me_ret mX6_layCells) ∈ tb_W := tb_in (i := 368) rfl rfl
set_option maxRecDepth 100000 in
theorem tk_45 : Cond.code (me_y mX6_cellOf) (me_b mX6_cellOf) (me_nl mX6_cellOf) (me_ret mX6_cellOf) ∈ tb_W := tb_in (i := 371) rfl rfl
set_option maxRecDepth 100000 in
theorem tk_46 : Cond.code (me_y mX6_layCell) (me_b mX6_layCell) (me_nl mX6_layCell) (me_ret mX6_layCell) ∈ tb_W := tb_in (i := 375) rfl rfl
set_option maxRecDepth 100000 in
theorem tk_47 : Cond.code (me_y mX6_layPairs) (me_b mX6_layPairs) (me_nl mX6_layPairs) (me_ret mX6_layPairs) ∈ tb_W := tb_in (i := 379) rfl rfl
set_option maxRecDepth 100000 in
theorem tk_48 : Cond.code (me_y mX4_isSomeBroken) (me_b mX4_isSomeBroken) (me_nl mX4_isSomeBroken) (me_ret mX4_isSomeBroken) ∈ tb_W := tb_in (i := 383) rfl rfl
set_option maxRecDepth 100000 in
theorem tk_49 : Cond.code (me_y mX6_sizeLaid) (me_b mX6_sizeLaid) (me_nl mX6_sizeLaid) (me_ret mX6_sizeLaid) ∈ tb_W := tb_in (i := 387) rfl rfl
set_option maxRecDepth 100000 in
theorem tk_50 : Cond.code (me_y mX1_choices) (me_b mX1_choices) (me_nl mX1_choices) (me_ret mX1_choices) ∈ tb_W := tb_in (i := 393) rfl rfl
set_option maxRecDepth 100000 in
theorem tk_51 : Cond.code (me_y mX4_instanceOf) (me_b mX4_instanceOf) (me_nl mX4_instanceOf) (me_ret mX4_instanceOf) ∈ tb_W := tb_in (i := 396) rfl rfl
set_option maxRecDepth 100000 in
theorem tk_52 : Cond.code (me_y mX4_needsLook) (me_b mX4_needsLook) (me_nl mX4_needsLook) (me_ret mX4_needsLook) ∈ tb_W := tb_in (i := 400) rfl rfl
set_option maxRecDepth 100000 in
theorem tk_53 : Cond.code (me_y mX3_isBroken) (me_b mX3_isBroken) (me_nl mX3_isBroken) (me_ret mX3_isBroken) ∈ tb_W := tb_in (i := 404) rfl rfl
set_option maxRecDepth 100000 in
theorem tk_54 : Cond.code (me_y mX1_length) (me_b mX1_length) (me_nl mX1_length) (me_ret mX1_length) ∈ tb_W := tb_in (i := 408) rfl rfl
set_option maxRecDepth 100000 in
theorem tk_55 : Cond.code (me_y mX1_codeAt) (me_b mX1_codeAt) (me_nl mX1_codeAt) (me_ret mX1_codeAt) ∈ tb_W := tb_in (i := 412) rfl rfl
set_option maxRecDepth 100000 in
theorem tk_56 : Cond.code (me_y mX3_push) (me_b mX3_push) (me_nl mX3_push) (me_ret mX3_push) ∈ tb_W := tb_in (i := 417) rfl rfl
set_option maxRecDepth 100000 in
theorem tk_57 : Cond.code (me_y mX3_pop) (me_b mX3_pop) (me_nl mX3_pop) (me_ret mX3_pop) ∈ tb_W := tb_in (i := 421) rfl rfl
set_option maxRecDepth 100000 in
theorem tk_58 : Cond.code (me_y mX3_readCell) (me_b mX3_readCell) (me_nl mX3_readCell) (me_ret mX3_readCell) ∈ tb_W := tb_in (i := 425) rfl rfl
set_option maxRecDepth 100000 in
theorem tk_59 : Cond.code (me_y mX6_rankOf) (me_b mX6_rankOf) (me_nl mX6_rankOf) (me_ret mX6_rankOf) ∈ tb_W := tb_in (i := 431) rfl rfl
set_option maxRecDepth 100000 in
theorem tk_60 : Cond.code (me_y mX6_valueOf) (me_b mX6_valueOf) (me_nl mX6_valueOf) (me_ret mX6_valueOf) ∈ tb_W := tb_in (i := 435) rfl rfl
set_option maxRecDepth 100000 in
theorem tk_61 : Cond.code (me_y mX3_greatestRead) (me_b mX3_greatestRead) (me_nl mX3_greatestRead) (me_ret mX3_greatestRead) ∈ tb_W := tb_in (i := 443) rfl rfl
set_option maxRecDepth 100000 in
theorem tk_62 : Cond.code (me_y mX3_missing) (me_b mX3_missing) (me_nl mX3_missing) (me_ret mX3_missing) ∈ tb_W := tb_in (i := 447) rfl rfl
set_option maxRecDepth 100000 in
theorem tk_63 : Cond.code (me_y mX4_fill) (me_b mX4_fill) (me_nl mX4_fill) (me_ret mX4_fill) ∈ tb_W := tb_in (i := 451) rfl rfl
set_option maxRecDepth 100000 in
theorem tk_64 : Cond.code (me_y mX6_count) (me_b mX6_count) (me_nl mX6_count) (me_ret mX6_count) ∈ tb_W := tb_in (i := 456) rfl rfl
set_option maxRecDepth 100000 in
theorem tk_65 : Cond.code (me_y mX6_valueAt) (me_b mX6_valueAt) (me_nl mX6_valueAt) (me_ret mX6_valueAt) ∈ tb_W := tb_in (i := 460) rfl rfl
set_option maxRecDepth 100000 in
theorem tk_66 : Cond.code (me_y mX6_isRank) (me_b mX6_isRank) (me_nl mX6_isRank) (me_ret mX6_isRank) ∈ tb_W := tb_in (i := 464) rfl rfl
set_option maxRecDepth 100000 in
theorem tk_67 : Cond.code (me_y mX4_limitAt) (me_b mX4_limitAt) (me_nl mX4_limitAt) (me_ret mX4_limitAt) ∈ tb_W := tb_in (i := 468) rfl rfl
set_option maxRecDepth 100000 in
theorem tk_68 : Cond.code (me_y mX6_isFunctionAt) (me_b mX6_isFunctionAt) (me_nl mX6_isFunctionAt) (me_ret mX6_isFunctionAt) ∈ tb_W := tb_in (i := 472) rfl rfl
set_option maxRecDepth 100000 in
theorem tk_69 : Cond.code (me_y mX6_greatestArgumentAt) (me_b mX6_greatestArgumentAt) (me_nl mX6_greatestArgumentAt) (me_ret mX6_greatestArgumentAt) ∈ tb_W := tb_in (i := 477) rfl rfl
set_option maxRecDepth 100000 in
theorem tk_70 : Cond.code (me_y mX6_putAt) (me_b mX6_putAt) (me_nl mX6_putAt) (me_ret mX6_putAt) ∈ tb_W := tb_in (i := 485) rfl rfl
set_option maxRecDepth 100000 in
theorem tk_71 : Cond.code (me_y mX4_put) (me_b mX4_put) (me_nl mX4_put) (me_ret mX4_put) ∈ tb_W := tb_in (i := 489) rfl rfl
set_option maxRecDepth 100000 in
theorem tk_72 : Cond.code (me_y mX7_more) (me_b mX7_more) (me_nl mX7_more) (me_ret mX7_more) ∈ tb_W := tb_in (i := 493) rfl rfl
set_option maxRecDepth 100000 in
theorem tk_73 : Cond.code (me_y mX4_goOn) (me_b mX4_goOn) (me_nl mX4_goOn) (me_ret mX4_goOn) ∈ tb_W := tb_in (i := 497) rfl rfl
set_option maxRecDepth 100000 in
theorem tk_74 : Cond.code (me_y mX7_size) (me_b mX7_size) (me_nl mX7_size) (me_ret mX7_size) ∈ tb_W := tb_in (i := 501) rfl rfl
set_option maxRecDepth 100000 in
theorem tk_75 : Cond.code (me_y mX7_value) (me_b mX7_value) (me_nl mX7_value) (me_ret mX7_value) ∈ tb_W := tb_in (i := 505) rfl rfl
set_option maxRecDepth 100000 in
theorem tk_76 : Cond.code (me_y mX7_isArgument) (me_b mX7_isArgument) (me_nl mX7_isArgument) (me_ret mX7_isArgument) ∈ tb_W := tb_in (i := 510) rfl rfl
set_option maxRecDepth 100000 in
theorem tk_77 : Cond.code (me_y mX7_tries) (me_b mX7_tries) (me_nl mX7_tries) (me_ret mX7_tries) ∈ tb_W := tb_in (i := 516) rfl rfl
set_option maxRecDepth 100000 in
theorem tk_78 : Cond.code (me_y mX4_made) (me_b mX4_made) (me_nl mX4_made) (me_ret mX4_made) ∈ tb_W := tb_in (i := 520) rfl rfl
set_option maxRecDepth 100000 in
theorem tk_79 : Cond.code (me_y mX7_check) (me_b mX7_check) (me_nl mX7_check) (me_ret mX7_check) ∈ tb_W := tb_in (i := 524) rfl rfl
set_option maxRecDepth 100000 in
theorem tk_80 : Cond.code (me_y mX7_holdsInStructure) (me_b mX7_holdsInStructure) (me_nl mX7_holdsInStructure) (me_ret mX7_holdsInStructure) ∈ tb_W := tb_in (i := 528) rfl rfl
set_option maxRecDepth 100000 in
theorem tk_81 : Cond.code (me_y mX7_caseOf) (me_b mX7_caseOf) (me_nl mX7_caseOf) (me_ret mX7_caseOf) ∈ tb_W := tb_in (i := 534) rfl rfl
set_option maxRecDepth 100000 in
theorem tk_82 : Cond.code (me_y mX7_clauses) (me_b mX7_clauses) (me_nl mX7_clauses) (me_ret mX7_clauses) ∈ tb_W := tb_in (i := 538) rfl rfl
set_option maxRecDepth 100000 in
theorem tk_83 : Cond.code (me_y mX8_init) (me_b mX8_init) (me_nl mX8_init) (me_ret mX8_init) ∈ tb_W := tb_in (i := 543) rfl rfl
set_option maxRecDepth 100000 in
theorem tk_84 : Cond.code (me_y mX8_symbol) (me_b mX8_symbol) (me_nl mX8_symbol) (me_ret mX8_symbol) ∈ tb_W := tb_in (i := 606) rfl rfl
set_option maxRecDepth 100000 in
theorem tk_85 : Cond.code (me_y mX8_symbolOf) (me_b mX8_symbolOf) (me_nl mX8_symbolOf) (me_ret mX8_symbolOf) ∈ tb_W := tb_in (i := 609) rfl rfl
set_option maxRecDepth 100000 in
theorem tk_86 : Cond.code (me_y mX8_type) (me_b mX8_type) (me_nl mX8_type) (me_ret mX8_type) ∈ tb_W := tb_in (i := 613) rfl rfl
set_option maxRecDepth 100000 in
theorem tk_87 : Cond.code (me_y mX8_clause) (me_b mX8_clause) (me_nl mX8_clause) (me_ret mX8_clause) ∈ tb_W := tb_in (i := 620) rfl rfl
set_option maxRecDepth 100000 in
theorem tk_88 : Cond.code (me_y mX8_wrong) (me_b mX8_wrong) (me_nl mX8_wrong) (me_ret mX8_wrong) ∈ tb_W := tb_in (i := 624) rfl rfl
set_option maxRecDepth 100000 in
theorem tk_89 : Cond.code (me_y mX8_atomWants) (me_b mX8_atomWants) (me_nl mX8_atomWants) (me_ret mX8_atomWants) ∈ tb_W := tb_in (i := 628) rfl rfl
set_option maxRecDepth 100000 in
theorem tk_90 : Cond.code (me_y mX8_termWants) (me_b mX8_termWants) (me_nl mX8_termWants) (me_ret mX8_termWants) ∈ tb_W := tb_in (i := 632) rfl rfl
set_option maxRecDepth 100000 in
theorem tk_91 : Cond.code (me_y mX8_keep) (me_b mX8_keep) (me_nl mX8_keep) (me_ret mX8_keep) ∈ tb_W := tb_in (i := 636) rfl rfl
set_option maxRecDepth 100000 in
theorem tk_92 : Cond.code (me_y mX8_drop) (me_b mX8_drop) (me_nl mX8_drop) (me_ret mX8_drop) ∈ tb_W := tb_in (i := 640) rfl rfl
set_option maxRecDepth 100000 in
theorem tk_93 : Cond.code (me_y mX8_find) (me_b mX8_find) (me_nl mX8_find) (me_ret mX8_find) ∈ tb_W := tb_in (i := 644) rfl rfl
set_option maxRecDepth 100000 in
theorem tk_94 : Cond.code (me_y mX8_list) (me_b mX8_list) (me_nl mX8_list) (me_ret mX8_list) ∈ tb_W := tb_in (i := 648) rfl rfl
set_option maxRecDepth 100000 in
theorem tk_95 : Cond.code (me_y mX8_put) (me_b mX8_put) (me_nl mX8_put) (me_ret mX8_put) ∈ tb_W := tb_in (i := 652) rfl rfl
set_option maxRecDepth 100000 in
theorem tk_96 : Cond.code (me_y mX8_someBreaks) (me_b mX8_someBreaks) (me_nl mX8_someBreaks) (me_ret mX8_someBreaks) ∈ tb_W := tb_in (i := 656) rfl rfl
set_option maxRecDepth 100000 in
theorem tk_97 : Cond.code (me_y mX8_letterOf) (me_b mX8_letterOf) (me_nl mX8_letterOf) (me_ret mX8_letterOf) ∈ tb_W := tb_in (i := 659) rfl rfl
set_option maxRecDepth 100000 in
theorem tk_98 : Cond.code (me_y mX8_has) (me_b mX8_has) (me_nl mX8_has) (me_ret mX8_has) ∈ tb_W := tb_in (i := 663) rfl rfl
set_option maxRecDepth 100000 in
theorem tk_99 : Cond.code (me_y mX8_breaks) (me_b mX8_breaks) (me_nl mX8_breaks) (me_ret mX8_breaks) ∈ tb_W := tb_in (i := 667) rfl rfl
set_option maxRecDepth 100000 in
theorem tk_100 : Cond.code (me_y mX8_isBroken) (me_b mX8_isBroken) (me_nl mX8_isBroken) (me_ret mX8_isBroken) ∈ tb_W := tb_in (i := 671) rfl rfl
set_option maxRecDepth 100000 in
theorem tk_101 : Cond.code (me_y mX8_step) (me_b mX8_step) (me_nl mX8_step) (me_ret mX8_step) ∈ tb_W := tb_in (i := 675) rfl rfl
set_option maxRecDepth 100000 in
theorem tk_102 : Cond.code (me_y mX8_cell) (me_b mX8_cell) (me_nl mX8_cell) (me_ret mX8_cell) ∈ tb_W := tb_in (i := 679) rfl rfl
set_option maxRecDepth 100000 in
theorem tk_103 : Cond.code (me_y mX8_walk) (me_b mX8_walk) (me_nl mX8_walk) (me_ret mX8_walk) ∈ tb_W := tb_in (i := 683) rfl rfl
set_option maxRecDepth 100000 in
theorem tk_104 : Cond.code (me_y mX8_placeOf) (me_b mX8_placeOf) (me_nl mX8_placeOf) (me_ret mX8_placeOf) ∈ tb_W := tb_in (i := 687) rfl rfl
set_option maxRecDepth 100000 in
theorem tk_105 : Cond.code (me_y mX8_limit) (me_b mX8_limit) (me_nl mX8_limit) (me_ret mX8_limit) ∈ tb_W := tb_in (i := 691) rfl rfl
set_option maxRecDepth 100000 in
theorem tk_106 : Cond.code (me_y mX8_more) (me_b mX8_more) (me_nl mX8_more) (me_ret mX8_more) ∈ tb_W := tb_in (i := 695) rfl rfl
set_option maxRecDepth 100000 in
theorem tk_107 : Cond.code (me_y mX8_size) (me_b mX8_size) (me_nl mX8_size) (me_ret mX8_size) ∈ tb_W := tb_in (i := 699) rfl rfl
set_option maxRecDepth 100000 in
theorem tk_108 : Cond.code (me_y mX8_value) (me_b mX8_value) (me_nl mX8_value) (me_ret mX8_value) ∈ tb_W := tb_in (i := 703) rfl rfl
set_option maxRecDepth 100000 in
theorem tk_109 : Cond.code (me_y mX8_tries) (me_b mX8_tries) (me_nl mX8_tries) (me_ret mX8_tries) ∈ tb_W := tb_in (i := 707) rfl rfl
set_option maxRecDepth 100000 in
theorem tk_110 : Cond.code (me_y mX8_check) (me_b mX8_check) (me_nl mX8_check) (me_ret mX8_check) ∈ tb_W := tb_in (i := 711) rfl rfl
set_option maxRecDepth 100000 in
theorem tk_111 : Cond.code (me_y mX8_caseOf) (me_b mX8_caseOf) (me_nl mX8_caseOf) (me_ret mX8_caseOf) ∈ tb_W := tb_in (i := 715) rfl rfl
set_option maxRecDepth 100000 in
theorem tk_112 : Cond.code (me_y mX8_clauses) (me_b mX8_clauses) (me_nl mX8_clauses) (me_ret mX8_clauses) ∈ tb_W := tb_in (i := 719) rfl rfl
theorem tb_code {M : ab_Me} (h : M ∈ tb_M) : Cond.code (me_y M) (me_b M) (me_nl M) (me_ret M) ∈ tb_W := by
  revert M
  show ∀ M ∈ tb_M, Cond.code (me_y M) (me_b M) (me_nl M) (me_ret M) ∈ tb_W
  unfold tb_M
  exact List.forall_mem_cons.mpr ⟨tk_0, List.forall_mem_cons.mpr ⟨tk_1, List.forall_mem_cons.mpr ⟨tk_2, List.forall_mem_cons.mpr ⟨tk_3, List.forall_mem_cons.mpr ⟨tk_4, List.forall_mem_cons.mpr ⟨tk_5, List.forall_mem_cons.mpr ⟨tk_6, List.forall_mem_cons.mpr ⟨tk_7, List.forall_mem_cons.mpr ⟨tk_8, List.forall_mem_cons.mpr ⟨tk_9, List.forall_mem_cons.mpr ⟨tk_10, List.forall_mem_cons.mpr ⟨tk_11, List.forall_mem_cons.mpr ⟨tk_12, List.forall_mem_cons.mpr ⟨tk_13, List.forall_mem_cons.mpr ⟨tk_14, List.forall_mem_cons.mpr ⟨tk_15, List.forall_mem_cons.mpr ⟨tk_16, List.forall_mem_cons.mpr ⟨tk_17, List.forall_mem_cons.mpr ⟨tk_18, List.forall_mem_cons.mpr ⟨tk_19, List.forall_mem_cons.mpr ⟨tk_20, List.forall_mem_cons.mpr ⟨tk_21, List.forall_mem_cons.mpr ⟨tk_22, List.forall_mem_cons.mpr ⟨tk_23, List.forall_mem_cons.mpr ⟨tk_24, List.forall_mem_cons.mpr ⟨tk_25, List.forall_mem_cons.mpr ⟨tk_26, List.forall_mem_cons.mpr ⟨tk_27, List.forall_mem_cons.mpr ⟨tk_28, List.forall_mem_cons.mpr ⟨tk_29, List.forall_mem_cons.mpr ⟨tk_30, List.forall_mem_cons.mpr ⟨tk_31, List.forall_mem_cons.mpr ⟨tk_32, List.forall_mem_cons.mpr ⟨tk_33, List.forall_mem_cons.mpr ⟨tk_34, List.forall_mem_cons.mpr ⟨tk_35, List.forall_mem_cons.mpr ⟨tk_36, List.forall_mem_cons.mpr ⟨tk_37, List.forall_mem_cons.mpr ⟨tk_38, List.forall_mem_cons.mpr ⟨tk_39, List.forall_mem_cons.mpr ⟨tk_40, List.forall_mem_cons.mpr ⟨tk_41, List.forall_mem_cons.mpr ⟨tk_42, List.forall_mem_cons.mpr ⟨tk_43, List.forall_mem_cons.mpr ⟨tk_44, List.forall_mem_cons.mpr ⟨tk_45, List.forall_mem_cons.mpr ⟨tk_46, List.forall_mem_cons.mpr ⟨tk_47, List.forall_mem_cons.mpr ⟨tk_48, List.forall_mem_cons.mpr ⟨tk_49, List.forall_mem_cons.mpr ⟨tk_50, List.forall_mem_cons.mpr ⟨tk_51, List.forall_mem_cons.mpr ⟨tk_52, List.forall_mem_cons.mpr ⟨tk_53, List.forall_mem_cons.mpr ⟨tk_54, List.forall_mem_cons.mpr ⟨tk_55, List.forall_mem_cons.mpr ⟨tk_56, List.forall_mem_cons.mpr ⟨tk_57, List.forall_mem_cons.mpr ⟨tk_58, List.forall_mem_cons.mpr ⟨tk_59, List.forall_mem_cons.mpr ⟨tk_60, List.forall_mem_cons.mpr ⟨tk_61, List.forall_mem_cons.mpr ⟨tk_62, List.forall_mem_cons.mpr ⟨tk_63, List.forall_mem_cons.mpr ⟨tk_64, List.forall_mem_cons.mpr ⟨tk_65, List.forall_mem_cons.mpr ⟨tk_66, List.forall_mem_cons.mpr ⟨tk_67, List.forall_mem_cons.mpr ⟨tk_68, List.forall_mem_cons.mpr ⟨tk_69, List.forall_mem_cons.mpr ⟨tk_70, List.forall_mem_cons.mpr ⟨tk_71, List.forall_mem_cons.mpr ⟨tk_72, List.forall_mem_cons.mpr ⟨tk_73, List.forall_mem_cons.mpr ⟨tk_74, List.forall_mem_cons.mpr ⟨tk_75, List.forall_mem_cons.mpr ⟨tk_76, List.forall_mem_cons.mpr ⟨tk_77, List.forall_mem_cons.mpr ⟨tk_78, List.forall_mem_cons.mpr ⟨tk_79, List.forall_mem_cons.mpr ⟨tk_80, List.forall_mem_cons.mpr ⟨tk_81, List.forall_mem_cons.mpr ⟨tk_82, List.forall_mem_cons.mpr ⟨tk_83, List.forall_mem_cons.mpr ⟨tk_84, List.forall_mem_cons.mpr ⟨tk_85, List.forall_mem_cons.mpr ⟨tk_86, List.forall_mem_cons.mpr ⟨tk_87, List.forall_mem_cons.mpr ⟨tk_88, List.forall_mem_cons.mpr ⟨tk_89, List.forall_mem_cons.mpr ⟨tk_90, List.forall_mem_cons.mpr ⟨tk_91, List.forall_mem_cons.mpr ⟨tk_92, List.forall_mem_cons.mpr ⟨tk_93, List.forall_mem_cons.mpr ⟨tk_94, List.forall_mem_cons.mpr ⟨tk_95, List.forall_mem_cons.mpr ⟨tk_96, List.forall_mem_cons.mpr ⟨tk_97, List.forall_mem_cons.mpr ⟨tk_98, List.forall_mem_cons.mpr ⟨tk_99, List.forall_mem_cons.mpr ⟨tk_100, List.forall_mem_cons.mpr ⟨tk_101, List.forall_mem_cons.mpr ⟨tk_102, List.forall_mem_cons.mpr ⟨tk_103, List.forall_mem_cons.mpr ⟨tk_104, List.forall_mem_cons.mpr ⟨tk_105, List.forall_mem_cons.mpr ⟨tk_106, List.forall_mem_cons.mpr ⟨tk_107, List.forall_mem_cons.mpr ⟨tk_108, List.forall_mem_cons.mpr ⟨tk_109, List.forall_mem_cons.mpr ⟨tk_110, List.forall_mem_cons.mpr ⟨tk_111, List.forall_mem_cons.mpr ⟨tk_112, fun _ h => absurd h List.not_mem_nil⟩⟩⟩⟩⟩⟩⟩⟩⟩⟩⟩⟩⟩⟩⟩⟩⟩⟩⟩⟩⟩⟩⟩⟩⟩⟩⟩⟩⟩⟩⟩⟩⟩⟩⟩⟩⟩⟩⟩⟩⟩⟩⟩⟩⟩⟩⟩⟩⟩⟩⟩⟩⟩⟩⟩⟩⟩⟩⟩⟩⟩⟩⟩⟩⟩⟩⟩⟩⟩⟩⟩⟩⟩⟩⟩⟩⟩⟩⟩⟩⟩⟩⟩⟩⟩⟩⟩⟩⟩⟩⟩⟩⟩⟩⟩⟩⟩⟩⟩⟩⟩⟩⟩⟩⟩⟩⟩⟩⟩⟩⟩⟩⟩
set_option maxRecDepth 100000 in
theorem tb_meth : ∀ M ∈ tb_M, plainName (me_y M).cls = true ∧ (me_y M).cls ≠ "java/lang/invoke/MethodHandle" ∧ (me_y M).cls ≠ "java/lang/invoke/VarHandle" ∧ tb_nm (me_own M) = (me_y M).cls ∧ (me_ini M = true → (me_y M).name = "<init>") := by decide +kernel
set_option maxRecDepth 100000 in
theorem tb_fa_0 : (u_ws RX0 TX0 2).all (fun w => decide (w ∈ lw_tbl) && goodWord w) = true := by decide +kernel
set_option maxRecDepth 100000 in
theorem tb_fa_1 : (u_ws RX1 TX1 3).all (fun w => decide (w ∈ lw_tbl) && goodWord w) = true := by decide +kernel
set_option maxRecDepth 100000 in
theorem tb_fa_2 : (u_ws RX2 TX2 2).all (fun w => decide (w ∈ lw_tbl) && goodWord w) = true := by decide +kernel
set_option maxRecDepth 100000 in
theorem tb_fa_3 : (u_ws RX3 TX3 8).all (fun w => decide (w ∈ lw_tbl) && goodWord w) = true := by decide +kernel
set_option maxRecDepth 100000 in
theorem tb_fa_4 : (u_ws RX4 TX4 7).all (fun w => decide (w ∈ lw_tbl) && goodWord w) = true := by decide +kernel
set_option maxRecDepth 100000 in
theorem tb_fa_5 : (u_ws RX5 TX5 1).all (fun w => decide (w ∈ lw_tbl) && goodWord w) = true := by decide +kernel
set_option maxRecDepth 100000 in
theorem tb_fa_6 : (u_ws RX6 TX6 6).all (fun w => decide (w ∈ lw_tbl) && goodWord w) = true := by decide +kernel
set_option maxRecDepth 100000 in
theorem tb_fa_7 : (u_ws RX7 TX7 10).all (fun w => decide (w ∈ lw_tbl) && goodWord w) = true := by decide +kernel
set_option maxRecDepth 100000 in
theorem tb_fa_8 : (u_ws RX8 TX8 19).all (fun w => decide (w ∈ lw_tbl) && goodWord w) = true := by decide +kernel
theorem tb_inst_0 : Cond.instantiable RX0 2 ∈ tb_W := tb_hw_in (i := 67) (by decide +kernel)
theorem tb_inst_1 : Cond.instantiable RX1 3 ∈ tb_W := tb_hw_in (i := 88) (by decide +kernel)
theorem tb_inst_2 : Cond.instantiable RX2 2 ∈ tb_W := tb_hw_in (i := 81) (by decide +kernel)
theorem tb_inst_3 : Cond.instantiable RX3 8 ∈ tb_W := tb_hw_in (i := 139) (by decide +kernel)
theorem tb_inst_4 : Cond.instantiable RX4 7 ∈ tb_W := tb_hw_in (i := 174) (by decide +kernel)
theorem tb_inst_5 : Cond.instantiable RX5 1 ∈ tb_W := tb_hw_in (i := 53) (by decide +kernel)
theorem tb_inst_6 : Cond.instantiable RX6 6 ∈ tb_W := tb_hw_in (i := 114) (by decide +kernel)
theorem tb_inst_7 : Cond.instantiable RX7 10 ∈ tb_W := tb_hw_in (i := 45) (by decide +kernel)
theorem tb_inst_8 : Cond.instantiable RX8 19 ∈ tb_W := tb_hw_in (i := 540) (by decide +kernel)
theorem tb_inst {k : Nat} {r : vw_C} (h : vwCl[k]? = some r) : Cond.instantiable r.1 r.2.2 ∈ tb_W := by
  match k, h with
  | 0, h => cases h; exact tb_inst_0
  | 1, h => cases h; exact tb_inst_1
  | 2, h => cases h; exact tb_inst_2
  | 3, h => cases h; exact tb_inst_3
  | 4, h => cases h; exact tb_inst_4
  | 5, h => cases h; exact tb_inst_5
  | 6, h => cases h; exact tb_inst_6
  | 7, h => cases h; exact tb_inst_7
  | 8, h => cases h; exact tb_inst_8
  | k + 9, h => simp [vwCl] at h

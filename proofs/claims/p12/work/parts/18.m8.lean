def ab_rm (M : ab_Me) : Room := { frames := me_fr M, cells := me_mc M, slots := me_ms M, locals := me_lo M }
def ab_ws (M : ab_Me) : List Cond := .code (me_y M) (me_b M) (me_nl M) (me_ret M) :: tb_W
theorem ab_good {w : Cond} (h : w ∈ tb_W) : w ∈ tb_W ∧ ((w.onTables && w.keeps) = true ∨ ∃ ty, w = .arrayClass ty) := ⟨h, good_of_word (List.mem_filter.mp h).2⟩
theorem ab_gi {M : ab_Me} (h : M ∈ tb_M) : GoodIn tb_W (ab_ws M) := by
  intro w hw
  rcases List.mem_cons.mp hw with rfl | hw
  · exact ab_good (tb_code h)
  · exact ab_good hw
def ab_Pc (D : va_G) (ca : Nat → ClassId) (base : Nat) (as : List ab_V) (sh : ab_Sh) (σ : ab_M) : Array Value → State → Prop := va_Pc (as.map (ab_conc base)) (fun U => U.heap.size = base + sh.length ∧ va_P D vwCl (ab_w base ca sh σ) U.heap ∧ ab_X D ca U)
def ab_Qc (D : va_G) (ca : Nat → ClassId) (base : Nat) (v : Option ab_V) (sh : ab_Sh) (σ : ab_M) : Array Value → State → Outcome → State → Prop := fun _ st oc t => oc = .returned (v.map (ab_conc base)) ∧ t.heap.size = base + sh.length ∧ va_P D vwCl (ab_w base ca sh σ) t.heap ∧ va_F (fun q => base ≤ q) st t
/-- A METHOD'S CONTRACT: from these arguments, cells and numbers it returns this, and leaves these -/
def ab_Ct (l : Launch) (M : ab_Me) (D : va_G) (ca : Nat → ClassId) (base : Nat) (as : List ab_V) (sh : ab_Sh) (σ : ab_M) (v : Option ab_V) (sh' : ab_Sh) (σ' : ab_M) : Prop :=
  Met l (me_y M) (ab_ws M) (ab_rm M) (ab_Pc D ca base as sh σ) (ab_Qc D ca base v sh' σ') (me_mc M) (me_ms M) (fun q => base ≤ q)
theorem ab_blind {D : va_G} {ca : Nat → ClassId} {base : Nat} {as : List ab_V} {sh : ab_Sh} {σ : ab_M} : FrameBlind (ab_Pc D ca base as sh σ) := fun a U g mk q => ⟨q.1, q.2.1, q.2.2.1, ab_X.call q.2.2.2⟩
section ABC
variable {p : Program} {l : Launch} {e : Env} {R : Room} {s : State} {m : MethodId} {args : Array Value} {below : List Frame} {meth : Method} {c : Code} {D : va_G} {base : Nat} {ca : Nat → ClassId} {nL o : Nat} {ini : Bool} {Z : State → Prop}
variable {cc : ByteArray} {pc x : Nat} {ls : ab_L} {st st' : List ab_V} {sh sh' : ab_Sh} {σ σ' : ab_M} {cells slots : Nat}
theorem ab_pre {H : Heap} {as : List ab_V} (hX : ab_X D ca s) (hz : H.size = base + sh.length) (hP : va_P D vwCl (ab_w base ca sh σ) H) : ∀ U : State, U.heap = H → s.WarmedH U.vm → ab_Pc D ca base as sh σ (as.map (ab_conc base)).toArray U := fun U hU hW => ⟨rfl, by rw [hU]; exact hz, by rw [hU]; exact hP, ab_X.warm hW hX⟩
/-- behind a call -/
theorem ab_aft {H : Heap} {locs : List Loc} {lsA : Array Slot} {mc ms : Nat} {st0 : List Value} {r : List ab_V} {v : Option ab_V} {a : Array Value} (hr : va_Run p l e R s m args below meth c H locs cells slots mc ms (F0 m pc lsA st0) (r.map (ab_conc base)) (ab_Qc D ca base v sh' σ' a) (fun q => base ≤ q)) (hS : va_S (fun q => base ≤ q) s.heap H locs)
    (k : ∀ (H1 : Heap) (locs1 : List Loc), H1.size = base + sh'.length → va_P D vwCl (ab_w base ca sh' σ') H1 → va_S (fun q => base ≤ q) s.heap H1 locs1 → W p l e R s m args below meth c H1 locs1 (cells + mc) (slots + ms) Z (F0 m (pc + 3) lsA ((v.toList ++ r).map (ab_conc base)))) : W p l e R s m args below meth c H locs cells slots Z (F0 m pc lsA st0) := by
  intro T hT X
  obtain ⟨v', st₀, t, T', L, h0, X', hLc, e1, e2, ⟨q1, q2, q3, q4, q5⟩, st⟩ := hr T hT X
  cases q1
  rw [h0] at q4 q5
  obtain ⟨t2, a1, b1⟩ := k T'.heap (locs ++ L) (by rw [e1]; exact q2) (by rw [e1]; exact q3) ⟨Nat.le_trans hS.1 (by rw [e1]; exact q4), fun q h1 h2 => by rw [e1, q5 q (Nat.lt_of_lt_of_le h1 hS.1) h2]; exact hS.2.1 q h1 h2, fun q hq => by
      rcases List.mem_append.mp hq with h | h
      · exact hS.2.2 q h
      · exact hLc q h⟩ T' rfl X'
  refine ⟨t2, st t2 ?_, b1⟩
  have e3 : (v.toList ++ r).map (ab_conc base) = (v.map (ab_conc base)).toList ++ r.map (ab_conc base) := by cases v <;> rfl
  rw [e3] at a1
  exact a1
theorem ab_take {na : Nat} (st : List ab_V) : st.map (ab_conc base) = (((st.take na).reverse.map (ab_conc base)).reverse) ++ (st.drop na).map (ab_conc base) := by
  rw [← List.map_reverse, List.reverse_reverse, ← List.map_append, List.take_append_drop]
theorem ab_dn {M : ab_Me} {n : Nat} (h : tb_dn M n = true) : (parseMethodDescriptor (me_y M).desc).map (fun d => d.parameters.length) = some n := of_decide_eq_true h
/-- which instruction is a call of which kind -/
def ab_kind (i : Jvm.ClassFile.Instr) (x : Nat) : Option Nat := match i with
  | .invokestatic y => bif Nat.beq y x then some 0 else none
  | .invokevirtual y => bif Nat.beq y x then some 1 else none
  | .invokespecial y => bif Nat.beq y x then some 2 else none
  | _ => none
set_option maxHeartbeats 4000000 in
theorem ab_callW {kd y : Nat} {i : Jvm.ClassFile.Instr} {M' : ab_Me} {as r : List ab_V} {v : Option ab_V} {H : Heap} {locs : List Loc} {lsA : Array Slot} (F : ab_Fr p s m args meth c cc nL o ini D ca base) (hk : ab_kind i x = some kd) (hd : decode cc pc = .ok (i, 3)) (h : ab_inv kd o x st sh = some (y, as, r)) (hM : tb_M[y]? = some M') (hC : ab_Ct l M' D ca base as sh σ v sh' σ') (hr1 : me_fr M' + 1 ≤ R.frames) (hr2 : 8 + (me_nl M' + 11) + me_lo M' ≤ R.locals) (hr3 : cells + me_mc M' ≤ R.cells) (hr4 : slots + me_ms M' ≤ R.slots) (hz : H.size = base + sh.length) (hP : va_P D vwCl (ab_w base ca sh σ) H) (hS : va_S (fun q => base ≤ q) s.heap H locs) (hsz : lsA.size = nL)
    (k : ∀ (H1 : Heap) (locs1 : List Loc), H1.size = base + sh'.length → va_P D vwCl (ab_w base ca sh' σ') H1 → va_S (fun q => base ≤ q) s.heap H1 locs1 → W p l e R s m args below meth c H1 locs1 (cells + me_mc M') (slots + me_ms M') Z (F0 m (pc + 3) lsA ((v.toList ++ r).map (ab_conc base)))) : W p l e R s m args below meth c H locs cells slots Z (F0 m pc lsA (st.map (ab_conc base))) := by
  obtain ⟨hx, hb, hml, hown, hts, hX, hbs, hini, hlk⟩ := F
  have hMm := List.mem_of_getElem? hM
  obtain ⟨t1, t2, t3, t4, t5⟩ := tb_meth M' hMm
  unfold ab_inv at h
  split at h
  · rename_i y' hY
    obtain ⟨M2, hM2, hLk⟩ := tb_Y_ok hY
    split at h
    · rename_i M3 hM3
      obtain ⟨he, hh⟩ := ab_bif h
      clear h
      cases hM2.symm.trans hM3
      rw [Bool.and_eq_true] at he
      have hna : me_na M2 ≤ st.length := Nat.le_of_ble_eq_true he.1
      have hcat : ab_cats (st.drop (me_na M2)) ≤ 8 := Nat.le_of_ble_eq_true he.2
      have hrow : (((st.drop (me_na M2)).map (ab_conc base)).map fun v => v.category).sum ≤ 8 := by rw [ab_cats_eq]; exact hcat
      have hfix : CallFix p m c cc nL s args tb_W (tb_nm o) := ⟨hx, hb, hml, hown, hts⟩
      obtain ⟨hlk1, hlk2⟩ := hLk
      match kd, hk, hlk2, hh with
      | 0, hk, hlk2, hh =>
        cases hh
        cases hM.symm.trans hM3
        obtain ⟨g1, g2, g3⟩ := hlk2
        have hi : i = .invokestatic x := by
          unfold ab_kind at hk
          split at hk
          · rw [Nat.eq_of_beq_eq_true (ab_bif hk).1]
          · cases (ab_bif hk).2
          · cases (ab_bif hk).2
          · cases hk
        subst hi
        have hlen : ((st.take (me_na M')).reverse.map (ab_conc base)).length = me_na M' := by simp; omega
        refine ab_aft (a := ((st.take (me_na M')).reverse.map (ab_conc base)).toArray) ?_ hS k
        rcases g3 with g3 | ⟨q, hq, q1, q2, q3⟩
        · exact va_runS hfix hC ⟨callB_of (me_na M') hts (ab_gi hMm) rfl rfl rfl (hts _ hlk1) (hts _ g3) ⟨t2, t3, ab_dn g2⟩ ⟨hr1, hr2⟩, hts _ g1⟩ ⟨ab_blind, ab_pre hX hz hP⟩ rfl hlen hsz (ab_take st) (lv_room hrow) hd ⟨hr3, hr4⟩
        · subst q2
          have hw := hX.2.1 q hq
          rw [q1, q3] at hw
          exact va_runSN hfix hC ⟨va_cnB (me_na M') hts (ab_gi hMm) rfl rfl rfl hw (hts _ hlk1) ⟨t2, t3, ab_dn g2⟩ ⟨hr1, hr2⟩, hts _ g1, trivial⟩ ⟨ab_blind, ab_pre hX hz hP⟩ rfl hlen hsz (ab_take st) (lv_room hrow) hd ⟨hr3, hr4⟩
      | 1, hk, hlk2, hh =>
        obtain ⟨g1, g2, g3, g4, g5⟩ := hlk2
        have hi : i = .invokevirtual x := by
          unfold ab_kind at hk
          split at hk
          · cases (ab_bif hk).2
          · rw [Nat.eq_of_beq_eq_true (ab_bif hk).1]
          · cases (ab_bif hk).2
          · cases hk
        subst hi
        simp only at hh
        split at hh
        · rename_i q as' has
          split at hh
          · rename_i ci ff hsq
            obtain ⟨he2, hh⟩ := ab_bif hh
            cases hh
            cases hM.symm.trans hM3
            have hci := Nat.eq_of_beq_eq_true he2
            have hlen : ((as').map (ab_conc base)).length = me_na M' - 1 := by
              have h9 := congrArg List.length has
              simp at h9 ⊢
              omega
            have hst : st.map (ab_conc base) = (as'.map (ab_conc base)).reverse ++ .ref (base + q) :: (st.drop (me_na M')).map (ab_conc base) := by
              rw [ab_take (na := me_na M') st, has]
              simp [ab_conc]
            have hcl : vwCl[ci]? ≠ none := by
              intro hn
              obtain ⟨r', h1', -⟩ := hP q _ (ab_w_at hsq)
              rw [hn] at h1'
              cases h1'
            obtain ⟨⟨C, T, N⟩, hcC⟩ := Option.ne_none_iff_exists'.mp hcl
            have hCn : C = (me_y M').cls := by
              rw [tb_nm_cl hcC, hci, t4]
            subst hCn
            refine ab_aft (a := (Value.ref (base + q) :: as'.map (ab_conc base)).toArray) ?_ hS k
            exact va_runV (C := (me_y M').cls) (b := base + q) (As := as'.map (ab_conc base)) hfix hC ⟨callB_of (me_na M' - 1) hts (ab_gi hMm) rfl rfl rfl (hts _ hlk1) (hts _ g3) ⟨t2, t3, ab_dn g4⟩ ⟨hr1, hr2⟩, hts _ g1, hts _ g2⟩ ⟨ab_blind, va_recv hX.1 hP hcC (ab_w_at hsq), ab_pre hX hz hP⟩ rfl hlen hsz hst (lv_room hrow) hd ⟨hr3, hr4⟩
          · cases hh
        · cases hh
      | kd + 2, hk, hlk2, hh =>
        obtain ⟨g1, g3, g4, g5, g6, g7⟩ := hlk2
        have hi : i = .invokespecial x := by
          unfold ab_kind at hk
          split at hk
          · cases (ab_bif hk).2
          · cases (ab_bif hk).2
          · rw [Nat.eq_of_beq_eq_true (ab_bif hk).1]
          · cases hk
        subst hi
        simp only at hh
        split at hh
        · rename_i q as' has
          cases hh
          cases hM.symm.trans hM3
          have hlen : ((as').map (ab_conc base)).length = me_na M' - 1 := by
            have h9 := congrArg List.length has
            simp at h9 ⊢
            omega
          have hst : st.map (ab_conc base) = (as'.map (ab_conc base)).reverse ++ .ref (base + q) :: (st.drop (me_na M')).map (ab_conc base) := by
            rw [ab_take (na := me_na M') st, has]
            simp [ab_conc]
          refine ab_aft (a := (Value.ref (base + q) :: as'.map (ab_conc base)).toArray) ?_ hS k
          have hcb := callB_of (R := R) (s := s) (args := args) (own := tb_nm o) (index := x) (y := me_y M') (bytes := me_b M') (maxL := me_nl M') (ret := me_ret M') (mc := me_mc M') (ms := me_ms M') (rm := ab_rm M') (ws := ab_ws M') (me_na M' - 1) hts (ab_gi hMm) rfl rfl rfl (hts _ hlk1) (hts _ g3) ⟨t2, t3, ab_dn g4⟩ ⟨hr1, hr2⟩
          rw [g6] at hcb
          exact va_runI (b := base + q) (As := as'.map (ab_conc base)) hfix hC ⟨hcb, g5, hts _ g1⟩ ⟨ab_blind, ab_pre hX hz hP⟩ rfl hlen hsz hst (lv_room hrow) hd ⟨hr3, hr4⟩
        · cases hh
    · cases h
  · cases h
theorem ab_call_ok {kd y : Nat} {i : Jvm.ClassFile.Instr} {M' : ab_Me} {as r : List ab_V} {v : Option ab_V} (F : ab_Fr p s m args meth c cc nL o ini D ca base) (hk : ab_kind i x = some kd) (hd : decode cc pc = .ok (i, 3)) (h : ab_inv kd o x st sh = some (y, as, r)) (hM : tb_M[y]? = some M') (hC : ab_Ct l M' D ca base as sh σ v sh' σ') (hr1 : me_fr M' + 1 ≤ R.frames) (hr2 : 8 + (me_nl M' + 11) + me_lo M' ≤ R.locals) (hr3 : cells + me_mc M' ≤ R.cells) (hr4 : slots + me_ms M' ≤ R.slots)
    (k : ab_K p l e R s m args below meth c D vwCl base ca nL Z (pc + 3) ls (v.toList ++ r) sh' σ' (cells + me_mc M') (slots + me_ms M')) : ab_K p l e R s m args below meth c D vwCl base ca nL Z pc ls st sh σ cells slots :=
  fun H locs lsA hz hP hS hL => ab_callW F hk hd h hM hC hr1 hr2 hr3 hr4 hz hP hS hL.1 (fun H1 locs1 z1 hP1 hS1 => k H1 locs1 lsA z1 hP1 hS1 hL)
end ABC

section ABR
variable {p : Program} {l : Launch} {e : Env} {R : Room} {s : State} {m : MethodId} {args : Array Value} {below : List Frame} {meth : Method} {c : Code} {D : va_G} {base : Nat} {ca : Nat → ClassId} {nL o : Nat} {ini : Bool} {Z : State → Prop}
variable {cc : ByteArray} {pc x : Nat} {ls : ab_L} {st st' : List ab_V} {sh sh' : ab_Sh} {σ σ' : ab_M} {cells slots : Nat}
theorem ab_rok_ok {ty : FieldType} {v : Int32} (h : ab_rok ty v = true) : narrow ty (.int v) = .int v := by
  unfold ab_rok at h
  split at h
  · rfl
  · rw [Bool.or_eq_true] at h
    rcases h with h | h
    · rw [of_decide_eq_true h]; decide
    · rw [of_decide_eq_true h]; decide
  · have h := of_decide_eq_true h
    unfold vp_nar at h
    have e : narrow .char (.int v) = .int v.toUInt32.toUInt16.toUInt32.toInt32 := rfl
    rw [e] at h ⊢
    simp only at h
    rw [h]
  · cases h
/-- a return -/
theorem ab_ret_ok {i : Jvm.ClassFile.Instr} {rt : Option FieldType} {v : Option ab_V} {mc ms : Nat} (F : ab_Fr p s m args meth c cc nL o ini D ca base) (hrt : meth.sig.returnType = rt) (hd : decode cc pc = .ok (i, 1)) (h : ab_ret i rt st = some v) (h1 : cells ≤ mc) (h2 : slots ≤ ms) : ab_K p l e R s m args below meth c D vwCl base ca nL (MQ below (ab_Qc D ca base v sh σ) args s mc ms (fun q => base ≤ q)) pc ls st sh σ cells slots := by
  obtain ⟨hx, hb, hml, hown, hts, hX, hbs, hini, hlk⟩ := F
  intro H locs lsA hz hP hS hL
  refine W.widen h1 h2 ?_
  have hq : ∀ t : State, t.heap = H → s.WarmedH t.vm → ab_Qc D ca base v sh σ args s (.returned (v.map (ab_conc base))) t := fun t ht _ => ⟨rfl, by rw [ht]; exact hz, by rw [ht]; exact hP, hS.F ht⟩
  have hf : ∀ q ∈ locs, base ≤ q.base := hS.2.2
  unfold ab_ret at h
  split at h
  · split at h
    · rename_i ty
      split at h
      · rename_i z
        obtain ⟨hr, hh⟩ := ab_bif h
        cases hh
        exact W.zret hx hb hrt (ab_rok_ok hr) hq hf hd hlk
      · cases h
    · cases h
  · split at h
    · rename_i ty
      split at h
      · rename_i z
        obtain ⟨hr, hh⟩ := ab_bif h
        cases hh
        refine W.aret hx hb hrt ?_ (Or.inr ⟨_, rfl⟩) hq hf hd hlk
        unfold ab_isR at hr
        split at hr
        · exact Or.inl ⟨_, rfl⟩
        · exact Or.inr ⟨_, rfl⟩
        · cases hr
      · cases h
    · cases h
  · split at h
    · split at h
      · cases h
        exact W.vret hx hb hrt hq hf hd hlk
      · cases h
    · cases h
  · cases h
theorem ab_nb {n k : Nat} {b : Bool} (h : (Nat.beq n k && b) = true) : n = k ∧ b = true := by
  rw [Bool.and_eq_true] at h
  exact ⟨Nat.eq_of_beq_eq_true h.1, h.2⟩
theorem ab_ble {n k : Nat} (h : Nat.ble n k = true) : n ≤ k := Nat.le_of_ble_eq_true h
set_option maxHeartbeats 8000000 in
/-- a step that goes on -/
theorem ab_next_ok {M : ab_Me} {pc' : Nat} {ls' : ab_L} {k k' s0 s' : Nat} (F : ab_Fr p s m args meth c (me_b M) (me_nl M) (me_own M) (me_ini M) D ca base) (h : ab_step M pc ls st sh σ k s0 = some (.inl (pc', ls', st', sh', σ', k', s'))) (kk : ab_K p l e (ab_rm M) s m args below meth c D vwCl base ca (me_nl M) Z pc' ls' st' sh' σ' k' s') : ab_K p l e (ab_rm M) s m args below meth c D vwCl base ca (me_nl M) Z pc ls st sh σ k s0 := by
  unfold ab_step at h
  split at h
  · rename_i i n hd
    have hx := F.1
    have hb := F.2.1
    have hts := F.2.2.2.2.1
    unfold ab_do at h
    split at h
    · obtain ⟨hn, hh⟩ := ab_bif h
      cases Nat.eq_of_beq_eq_true hn
      obtain ⟨q, h1, h2⟩ := Option.map_eq_some_iff.mp hh
      cases h2
      exact ab_get_ok F hd h1 kk
    · obtain ⟨hn, hh⟩ := ab_bif h
      cases Nat.eq_of_beq_eq_true hn
      obtain ⟨q, h1, h2⟩ := Option.map_eq_some_iff.mp hh
      cases h2
      exact ab_put_ok rfl rfl F hd h1 kk
    · obtain ⟨hn, hh⟩ := ab_bif h
      cases Nat.eq_of_beq_eq_true hn
      obtain ⟨q, h1, h2⟩ := Option.map_eq_some_iff.mp hh
      cases h2
      exact ab_load_ok rfl F hd h1 kk
    · obtain ⟨hn, hh⟩ := ab_bif h
      cases Nat.eq_of_beq_eq_true hn
      obtain ⟨q, h1, h2⟩ := Option.map_eq_some_iff.mp hh
      cases h2
      exact ab_load_ok rfl F hd h1 kk
    · obtain ⟨hn, hh⟩ := ab_bif h
      cases Nat.eq_of_beq_eq_true hn
      obtain ⟨q, h1, h2⟩ := Option.map_eq_some_iff.mp hh
      cases h2
      exact ab_load_ok rfl F hd h1 kk
    · obtain ⟨hn, hh⟩ := ab_bif h
      cases Nat.eq_of_beq_eq_true hn
      obtain ⟨q, h1, h2⟩ := Option.map_eq_some_iff.mp hh
      cases h2
      exact ab_stor_ok rfl F hd h1 kk
    · obtain ⟨hn, hh⟩ := ab_bif h
      cases Nat.eq_of_beq_eq_true hn
      obtain ⟨q, h1, h2⟩ := Option.map_eq_some_iff.mp hh
      cases h2
      exact ab_stor_ok rfl F hd h1 kk
    · obtain ⟨hn, hh⟩ := ab_bif h
      cases Nat.eq_of_beq_eq_true hn
      obtain ⟨q, h1, h2⟩ := Option.map_eq_some_iff.mp hh
      cases h2
      exact ab_stor_ok rfl F hd h1 kk
    · obtain ⟨hn, hh⟩ := ab_bif h
      cases Nat.eq_of_beq_eq_true hn
      obtain ⟨q, h1, h2⟩ := Option.map_eq_some_iff.mp hh
      cases h2
      exact ab_loadA_ok F hd h1 kk
    · obtain ⟨hn, hh⟩ := ab_bif h
      cases Nat.eq_of_beq_eq_true hn
      obtain ⟨q, h1, h2⟩ := Option.map_eq_some_iff.mp hh
      cases h2
      exact ab_storA_ok F hd h1 kk
    · obtain ⟨hn, hh⟩ := ab_bif h
      cases Nat.eq_of_beq_eq_true hn
      obtain ⟨q, h1, h2⟩ := Option.map_eq_some_iff.mp hh
      cases h2
      exact ab_len_ok F hd h1 kk
    · obtain ⟨hn, hh⟩ := ab_bif h
      obtain ⟨rfl, hok⟩ := ab_nb hn
      split at hh
      · rename_i z hz
        cases hh
        exact ab_inc_ok hx hb hd hz hok kk
      · cases hh
    · obtain ⟨hn, hh⟩ := ab_bif h
      cases Nat.eq_of_beq_eq_true hn
      split at hh
      · rename_i y z r
        cases hy : decide (y = 0) with
        | true => rw [hy] at hh; cases hh
        | false =>
          rw [hy] at hh
          cases hh
          exact ab_idiv_ok hx hb hd (of_decide_eq_false hy) kk
      · cases hh
    · obtain ⟨hn, hh⟩ := ab_bif h
      cases Nat.eq_of_beq_eq_true hn
      split at hh
      · rename_i y z r
        cases hy : decide (y = 0) with
        | true => rw [hy] at hh; cases hh
        | false =>
          rw [hy] at hh
          cases hh
          exact ab_irem_ok hx hb hd (of_decide_eq_false hy) kk
      · cases hh
    · obtain ⟨hn, hh⟩ := ab_bif h
      cases Nat.eq_of_beq_eq_true hn
      obtain ⟨q, h1, h2⟩ := Option.map_eq_some_iff.mp hh
      cases h2
      exact fun H locs lsA hz hP hS hL => lv_ldc hx hb F.2.2.2.1 (hts _ (tb_I_ok h1)) hd (kk H locs lsA hz hP hS hL)
    · obtain ⟨hn, hh⟩ := ab_bif h
      cases Nat.eq_of_beq_eq_true hn
      obtain ⟨q, h1, h2⟩ := Option.map_eq_some_iff.mp hh
      cases h2
      exact fun H locs lsA hz hP hS hL => lv_ldc2 hx hb F.2.2.2.1 (hts _ (tb_J_ok h1)) hd (kk H locs lsA hz hP hS hL)
    · obtain ⟨hn, hh⟩ := ab_bif h
      obtain ⟨rfl, hok⟩ := ab_nb hn
      split at hh
      · rename_i ci hci
        split at hh
        · rename_i f hf
          obtain ⟨h3, h4⟩ := ab_bif hh
          cases h4
          exact ab_new_ok F hd hci hf (ab_ble hok) (ab_ble h3) kk
        · cases hh
      · cases hh
    · obtain ⟨hn, hh⟩ := ab_bif h
      obtain ⟨rfl, hok⟩ := ab_nb hn
      split at hh
      · rename_i z r
        obtain ⟨h3, h4⟩ := ab_bif hh
        cases h4
        simp only [Bool.and_eq_true, Bool.not_eq_true'] at h3
        exact ab_newa_ok F hd (of_decide_eq_false h3.1.1.1) h3.1.1.2 (ab_ble h3.1.2) (ab_ble hok) (ab_ble h3.2) kk
      · cases hh
    · obtain ⟨hn, hh⟩ := ab_bif h
      obtain ⟨rfl, hok⟩ := ab_nb hn
      split at hh
      · rename_i y r
        split at hh
        · rename_i t ht
          obtain ⟨h3, h4⟩ := ab_bif hh
          cases h4
          simp only [Bool.and_eq_true, Bool.not_eq_true'] at h3
          exact ab_newq_ok F hd ht (of_decide_eq_false h3.1.1) (ab_ble h3.1.2) (ab_ble hok) (ab_ble h3.2) kk
        · cases hh
      · cases hh
    · obtain ⟨hn, hh⟩ := ab_bif h
      cases Nat.eq_of_beq_eq_true hn
      split at hh
      · rename_i b hbx
        split at hh
        · rename_i y z r
          obtain ⟨h3, h4⟩ := ab_bif hh
          cases h4
          simp only [Bool.and_eq_true] at h3
          exact ab_mm_ok F hd hbx (ab_ble h3.1.1.1) (ab_ble h3.1.1.2) (ab_ble h3.1.2) (ab_ble h3.2) kk
        · cases hh
      · obtain ⟨q, h1, h2⟩ := Option.map_eq_some_iff.mp hh
        cases h2
    · obtain ⟨hn, hh⟩ := ab_bif h
      obtain ⟨q, h1, h2⟩ := Option.map_eq_some_iff.mp hh
      cases h2
    · rename_i xx
      obtain ⟨hn, hh⟩ := ab_bif h
      cases Nat.eq_of_beq_eq_true hn
      cases hO : tb_O (me_own M) xx with
      | true =>
        rw [hO] at hh
        simp only [cond_true] at hh
        split at hh
        · rename_i z r
          obtain ⟨h3, h4⟩ := ab_bif hh
          cases h4
          simp only [Bool.and_eq_true] at h3
          exact ab_objI_ok F hd hO (ab_ble h3.1) (ab_ble h3.2) kk
        · cases hh
      | false =>
        rw [hO] at hh
        obtain ⟨q, h1, h2⟩ := Option.map_eq_some_iff.mp hh
        cases h2
    · obtain ⟨hn, hh⟩ := ab_bif h
      obtain ⟨q, h1, h2⟩ := Option.map_eq_some_iff.mp hh
      cases h2
    · obtain ⟨hn, hh⟩ := ab_bif h
      obtain ⟨q, h1, h2⟩ := Option.map_eq_some_iff.mp hh
      cases h2
    · obtain ⟨hn, hh⟩ := ab_bif h
      obtain ⟨q, h1, h2⟩ := Option.map_eq_some_iff.mp hh
      cases h2
    · rename_i cnd off0
      obtain ⟨hn, hh⟩ := ab_bif h
      obtain ⟨rfl, hok⟩ := ab_nb hn
      obtain ⟨⟨P, off, st1⟩, h1, h2⟩ := Option.map_eq_some_iff.mp hh
      cases h2
      have e : off = off0 := by
        unfold ab_br at h1
        simp only at h1
        split at h1
        · cases h1; rfl
        · cases h1
      rw [e] at h1
      exact ab_br_ok hx hb hd h1 (of_decide_eq_true hok) kk
    · rename_i cnd off0
      obtain ⟨hn, hh⟩ := ab_bif h
      obtain ⟨rfl, hok⟩ := ab_nb hn
      obtain ⟨⟨P, off, st1⟩, h1, h2⟩ := Option.map_eq_some_iff.mp hh
      cases h2
      have e : off = off0 := by
        unfold ab_br at h1
        simp only at h1
        split at h1
        · cases h1; rfl
        · cases h1
      rw [e] at h1
      exact ab_br_ok hx hb hd h1 (of_decide_eq_true hok) kk
    · obtain ⟨hn, hh⟩ := ab_bif h
      obtain ⟨rfl, hok⟩ := ab_nb hn
      cases hh
      exact ab_br_ok (P := true) hx hb hd rfl (of_decide_eq_true hok) kk
    · obtain ⟨hn, hh⟩ := ab_bif h
      cases Nat.eq_of_beq_eq_true hn
      cases hh
      exact ab_cst_ok hx hb hd rfl kk
    · obtain ⟨hn, hh⟩ := ab_bif h
      cases Nat.eq_of_beq_eq_true hn
      cases hh
      exact ab_cst_ok hx hb hd rfl kk
    · obtain ⟨hn, hh⟩ := ab_bif h
      cases Nat.eq_of_beq_eq_true hn
      cases hh
      exact ab_cst_ok hx hb hd rfl kk
    · split at h
      · rename_i q hq
        obtain ⟨hn, hh⟩ := ab_bif h
        obtain ⟨q1, q2, q3⟩ := q
        cases Nat.eq_of_beq_eq_true hn
        cases hh
        exact ab_pure_ok hx hb hd hq rfl kk
      · cases h
  · cases h
end ABR

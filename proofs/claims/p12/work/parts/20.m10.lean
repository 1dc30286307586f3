section ABS
theorem ab_callstep {M : ab_Me} {pc : Nat} {ls : ab_L} {st : List ab_V} {sh : ab_Sh} {σ : ab_M} {k s0 y : Nat} {as r : List ab_V} (h : ab_step M pc ls st sh σ k s0 = some (.inr (.inl (y, as, r)))) : ∃ i x kd, decode (me_b M) pc = .ok (i, 3) ∧ ab_kind i x = some kd ∧ ab_inv kd (me_own M) x st sh = some (y, as, r) := by
  unfold ab_step at h
  split at h
  · rename_i i n hd
    unfold ab_do at h
    split at h
    all_goals try (obtain ⟨hn, hh⟩ := ab_bif h; obtain ⟨q, h1, h2⟩ := Option.map_eq_some_iff.mp hh; cases h2; done)
    all_goals try (obtain ⟨hn, hh⟩ := ab_bif h; cases hh; done)
    · obtain ⟨hn, hh⟩ := ab_bif h
      split at hh <;> cases hh
    · obtain ⟨hn, hh⟩ := ab_bif h
      split at hh
      · rename_i y z r
        cases hy : decide (y = 0) <;> (rw [hy] at hh; cases hh)
      · cases hh
    · obtain ⟨hn, hh⟩ := ab_bif h
      split at hh
      · rename_i y z r
        cases hy : decide (y = 0) <;> (rw [hy] at hh; cases hh)
      · cases hh
    · obtain ⟨hn, hh⟩ := ab_bif h
      split at hh
      · split at hh
        · cases (ab_bif hh).2
        · cases hh
      · cases hh
    · obtain ⟨hn, hh⟩ := ab_bif h
      split at hh
      · cases (ab_bif hh).2
      · cases hh
    · obtain ⟨hn, hh⟩ := ab_bif h
      split at hh
      · split at hh
        · cases (ab_bif hh).2
        · cases hh
      · cases hh
    · rename_i xx
      obtain ⟨hn, hh⟩ := ab_bif h
      cases Nat.eq_of_beq_eq_true hn
      split at hh
      · split at hh
        · cases (ab_bif hh).2
        · cases hh
      · obtain ⟨q, h1, h2⟩ := Option.map_eq_some_iff.mp hh
        cases h2
        exact ⟨_, xx, 0, hd, by simp [ab_kind], h1⟩
    · rename_i xx
      obtain ⟨hn, hh⟩ := ab_bif h
      cases Nat.eq_of_beq_eq_true hn
      obtain ⟨q, h1, h2⟩ := Option.map_eq_some_iff.mp hh
      cases h2
      exact ⟨_, xx, 1, hd, by simp [ab_kind], h1⟩
    · rename_i xx
      obtain ⟨hn, hh⟩ := ab_bif h
      cases Nat.eq_of_beq_eq_true hn
      cases hO : tb_O (me_own M) xx with
      | true =>
        rw [hO] at hh
        simp only [cond_true] at hh
        split at hh
        · cases (ab_bif hh).2
        · cases hh
      | false =>
        rw [hO] at hh
        obtain ⟨q, h1, h2⟩ := Option.map_eq_some_iff.mp hh
        cases h2
        exact ⟨_, xx, 2, hd, by simp [ab_kind], h1⟩
    · split at h
      · cases (ab_bif h).2
      · cases h
  · cases h
theorem ab_retstep {M : ab_Me} {pc : Nat} {ls : ab_L} {st : List ab_V} {sh : ab_Sh} {σ : ab_M} {k s0 : Nat} {v : Option ab_V} (h : ab_step M pc ls st sh σ k s0 = some (.inr (.inr v))) : ∃ i, decode (me_b M) pc = .ok (i, 1) ∧ ab_ret i (me_ret M) st = some v ∧ k ≤ me_mc M ∧ s0 ≤ me_ms M := by
  unfold ab_step at h
  split at h
  · rename_i i n hd
    unfold ab_do at h
    split at h
    all_goals try (obtain ⟨hn, hh⟩ := ab_bif h; obtain ⟨q, h1, h2⟩ := Option.map_eq_some_iff.mp hh; cases h2; done)
    all_goals try (obtain ⟨hn, hh⟩ := ab_bif h; cases hh; done)
    · obtain ⟨hn, hh⟩ := ab_bif h
      split at hh <;> cases hh
    · obtain ⟨hn, hh⟩ := ab_bif h
      split at hh
      · rename_i y z r
        cases hy : decide (y = 0) <;> (rw [hy] at hh; cases hh)
      · cases hh
    · obtain ⟨hn, hh⟩ := ab_bif h
      split at hh
      · rename_i y z r
        cases hy : decide (y = 0) <;> (rw [hy] at hh; cases hh)
      · cases hh
    · obtain ⟨hn, hh⟩ := ab_bif h
      split at hh
      · split at hh
        · cases (ab_bif hh).2
        · cases hh
      · cases hh
    · obtain ⟨hn, hh⟩ := ab_bif h
      split at hh
      · cases (ab_bif hh).2
      · cases hh
    · obtain ⟨hn, hh⟩ := ab_bif h
      split at hh
      · split at hh
        · cases (ab_bif hh).2
        · cases hh
      · cases hh
    · obtain ⟨hn, hh⟩ := ab_bif h
      split at hh
      · split at hh
        · cases (ab_bif hh).2
        · cases hh
      · obtain ⟨q, h1, h2⟩ := Option.map_eq_some_iff.mp hh
        cases h2
    · rename_i xx
      obtain ⟨hn, hh⟩ := ab_bif h
      cases hO : tb_O (me_own M) xx with
      | true =>
        rw [hO] at hh
        simp only [cond_true] at hh
        split at hh
        · cases (ab_bif hh).2
        · cases hh
      | false =>
        rw [hO] at hh
        obtain ⟨q, h1, h2⟩ := Option.map_eq_some_iff.mp hh
        cases h2
    · obtain ⟨hn, hh⟩ := ab_bif h
      simp only [Bool.and_eq_true] at hn
      cases Nat.eq_of_beq_eq_true hn.1.1
      obtain ⟨q, h1, h2⟩ := Option.map_eq_some_iff.mp hh
      cases h2
      exact ⟨_, hd, h1, ab_ble hn.1.2, ab_ble hn.2⟩
    · obtain ⟨hn, hh⟩ := ab_bif h
      simp only [Bool.and_eq_true] at hn
      cases Nat.eq_of_beq_eq_true hn.1.1
      obtain ⟨q, h1, h2⟩ := Option.map_eq_some_iff.mp hh
      cases h2
      exact ⟨_, hd, h1, ab_ble hn.1.2, ab_ble hn.2⟩
    · obtain ⟨hn, hh⟩ := ab_bif h
      simp only [Bool.and_eq_true] at hn
      cases Nat.eq_of_beq_eq_true hn.1.1
      obtain ⟨q, h1, h2⟩ := Option.map_eq_some_iff.mp hh
      cases h2
      exact ⟨_, hd, h1, ab_ble hn.1.2, ab_ble hn.2⟩
    · split at h
      · cases (ab_bif h).2
      · cases h
  · cases h
/-- a contract, out of the walk from its entry -/
theorem ab_CtK {l : Launch} {M : ab_Me} {D : va_G} {ca : Nat → ClassId} {base : Nat} {as : List ab_V} {sh sh' : ab_Sh} {σ σ' : ab_M} {v : Option ab_V} (hM : M ∈ tb_M) (hlen : (ab_sl as).length ≤ me_nl M)
    (k : ∀ {p : Program} {e : Env} {s : State} {m : MethodId} {args : Array Value} {below : List Frame} {meth : Method} {c : Code}, ab_Fr p s m args meth c (me_b M) (me_nl M) (me_own M) (me_ini M) D ca base → meth.sig.returnType = me_ret M → ab_K p l e (ab_rm M) s m args below meth c D vwCl base ca (me_nl M) (MQ below (ab_Qc D ca base v sh' σ') args s (me_mc M) (me_ms M) (fun q => base ≤ q)) 0 (ab_entry as (me_nl M)) [] sh σ 0 0) : ab_Ct l M D ca base as sh σ v sh' σ' := by
  obtain ⟨t1, t2, t3, t4, t5⟩ := tb_meth M hM
  refine Met.ofW (cc := me_b M) (maxL := me_nl M) (ret := me_ret M) t1 rfl ?_
  intro p e s m args below meth c s₁ B hml hv
  obtain ⟨hargs, hsz, hP, hX⟩ := hv
  have hts : ∀ w ∈ ab_ws M, w.before args s = true := atoms_spec (ws := ab_ws M) B.pre
  have hown : s.vm.findClass (me_y M).cls = some m.cls := findClass_of_methodNamed B.named
  have hname : meth.name = (me_y M).name := (name_of_methodNamed B.named B.method).1
  have F : ab_Fr p s m args meth c (me_b M) (me_nl M) (me_own M) (me_ini M) D ca base := ⟨B.exec, B.bytes, hml, by rw [t4]; exact hown, fun w hw => hts w (List.mem_cons_of_mem _ hw), hX, by omega, fun h => hname.trans (t5 h), B.notSynchronized⟩
  have kk := k (e := e) (below := below) F B.returns s.heap [] _ hsz hP va_S.rf (ab_entry_has hlen)
  subst hargs
  rw [lg_entry_eq]
  exact kk
theorem ab_runK : ∀ (n : Nat) {M : ab_Me} {pc : Nat} {ls : ab_L} {st : List ab_V} {sh sh' : ab_Sh} {σ σ' : ab_M} {k s0 : Nat} {v : Option ab_V}, M ∈ tb_M → ab_run n M pc ls st sh σ k s0 = some (v, sh', σ') → ∀ {p : Program} {l : Launch} {e : Env} {s : State} {m : MethodId} {args : Array Value} {below : List Frame} {meth : Method} {c : Code} {D : va_G} {ca : Nat → ClassId} {base : Nat}, ab_Fr p s m args meth c (me_b M) (me_nl M) (me_own M) (me_ini M) D ca base → meth.sig.returnType = me_ret M → ab_K p l e (ab_rm M) s m args below meth c D vwCl base ca (me_nl M) (MQ below (ab_Qc D ca base v sh' σ') args s (me_mc M) (me_ms M) (fun q => base ≤ q)) pc ls st sh σ k s0 := by
  intro n
  induction n with
  | zero =>
    intro M pc ls st sh sh' σ σ' k s0 v hM h
    cases h
  | succ n ih =>
    intro M pc ls st sh sh' σ σ' k s0 v hM h p l e s m args below meth c D ca base F hr
    unfold ab_run at h
    split at h
    · rename_i pc1 ls1 st1 sh1 σ1 k1 s1 hs
      exact ab_next_ok F hs (ih hM h F hr)
    · rename_i y as r hs
      obtain ⟨i, x, kd, hd, hk, hi⟩ := ab_callstep hs
      split at h
      · rename_i M' hM'
        obtain ⟨hb, hh⟩ := ab_bif h
        simp only [Bool.and_eq_true] at hb
        have hM2 := List.mem_of_getElem? hM'
        split at hh
        · rename_i v1 sh1 σ1 hrun
          have hC : ab_Ct l M' D ca base as sh σ v1 sh1 σ1 := ab_CtK hM2 (ab_ble hb.2) (fun F' hr' => ih hM2 hrun F' hr')
          exact ab_call_ok F hk hd hi hM' hC (ab_ble hb.1.1.2) (ab_ble hb.1.2) (ab_ble hb.1.1.1.1) (ab_ble hb.1.1.1.2) (ih hM hh F hr)
        · cases hh
      · cases h
    · rename_i v1 hs
      cases h
      obtain ⟨i, hd, h1, h2, h3⟩ := ab_retstep hs
      exact ab_ret_ok F hr hd h1 h2 h3
    · cases h
/-- SOUND: what the abstract machine answers, the method does -/
theorem ab_sound {l : Launch} {n : Nat} {M : ab_Me} {D : va_G} {ca : Nat → ClassId} {base : Nat} {as : List ab_V} {sh sh' : ab_Sh} {σ σ' : ab_M} {v : Option ab_V} (hM : M ∈ tb_M) (hlen : (ab_sl as).length ≤ me_nl M) (h : ab_run n M 0 (ab_entry as (me_nl M)) [] sh σ 0 0 = some (v, sh', σ')) : ab_Ct l M D ca base as sh σ v sh' σ' :=
  ab_CtK hM hlen (fun F hr => ab_runK n hM h F hr)
end ABS

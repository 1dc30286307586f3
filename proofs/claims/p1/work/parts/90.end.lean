theorem si_m_of {σ : ab_M} (h : 0 = 0 → σ = si_m) : σ = si_m := h rfl
theorem p1_value_c {Q : Option ab_V → ab_M → Prop} {c i j : Int32} (k : Q (some (.inl (-1))) si_m) : evm mX7_value [.inr (.inr 0), .inl c, .inl i, .inl j] si_m Q := by
  refine s_X7_value_0 (x_codeOf si_m c ⟨_, rfl, ?_⟩)
  refine s_X5_arityOf_0 ⟨fun _ => ⟨_, rfl, fun _ => k, fun h => absurd rfl h⟩, fun h => ⟨fun h2 => ⟨?_, ⟨_, rfl, fun _ => k, fun h => absurd rfl h⟩⟩, fun _ => ⟨_, rfl, fun _ => k, fun h => absurd rfl h⟩⟩⟩
  rw [Int32.lt_iff_toInt_lt] at h h2
  rw [li_0] at h
  rw [li_8] at h2
  exact ab_in_of (by omega) (by omega)
theorem p1_value_m {Q : Option ab_V → ab_M → Prop} {c i j : Int32} (k : Q (some (.inl (-1))) si_m) : evm mX8_value [.inr (.inr 50), .inl c, .inl i, .inl j] si_m Q :=
  s_X8_value_0 (x_symbolOf si_m c ⟨_, rfl, fun _ => k, fun h => absurd rfl h⟩)
theorem p1_symbol_m {σ : ab_M} {Q : Option ab_V → ab_M → Prop} {c a : Int32} (h : r_symbolOf σ c < 0 ∨ ∃ j : Nat, j < 8 ∧ r_symbolOf σ c = nI j) (k : ∀ τ, Q (some (.inl (if r_symbolOf σ c < 0 then 0 else if a < (-1) then 0 else if a ≤ 2 then 1 else 0))) τ) : evm mX8_symbol [.inr (.inr 50), .inl c, .inl a] σ Q := by
  refine s_X8_symbol_0 (x_symbolOf σ c ⟨_, rfl, fun h1 => ?_, fun h1 => ⟨fun h2 => ?_, fun h2 => ⟨fun h3 => ⟨?_, ?_⟩, fun h3 => ?_⟩⟩⟩)
  · simp only [if_pos h1] at k
    exact k _
  · simp only [if_neg h1, if_pos h2] at k
    exact k _
  · obtain ⟨j, hj, e⟩ := h.resolve_left h1
    rw [e]
    exact ab_in_of (by rw [nI_toInt (by omega)]; omega) (by rw [nI_toInt (by omega)]; omega)
  · simp only [if_neg h1, if_neg h2, if_pos h3] at k
    exact k _
  · simp only [if_neg h1, if_neg h2, if_neg h3] at k
    exact k _
theorem p1_step (j : Nat) (hj : j = 0) : lw_Step (fun j σ => j = 0 → σ = si_m) j := by
  subst hj
  have triv : ∀ σ : ab_M, (0 + 1 = 0 → σ = si_m) := fun σ h => absurd h (by decide)
  have two : ∀ {n1 n2 : Nat} {Mx Mm : ab_Me} {ax am : List ab_V} {v : Int32} {σ : ab_M}, (0 = 0 → σ = si_m) → p1_two n1 n2 Mx Mm ax am v = true → ∃ (v1 v2 : Int32) (σ1 σ2 : ab_M), ev0 Mx ax σ (some (.inl v1)) σ1 ∧ ev0 Mm am σ1 (some (.inl v2)) σ2 ∧ v1 = v2 ∧ (0 + 1 = 0 → σ2 = si_m) := by
    intro n1 n2 Mx Mm ax am v σ hs h
    rw [hs rfl]
    obtain ⟨σ1, σ2, g1, g2⟩ := p1_two_ok h
    exact ⟨v, v, σ1, σ2, g1, g2, rfl, triv σ2⟩
  refine ⟨fun σ h => triv σ, ?_, ?_, ?_, ?_, ?_, ?_, ?_, ?_, ?_, ?_, ?_, ?_⟩
  · intro σ a1 a2 a3 hs
    rw [hs rfl]
    obtain ⟨v, σ1, g1, e1, e2⟩ := evm_of (x_symbol si_m (lw_char a1) a2 (Q := fun v τ => v = some (.inl (r_symbol si_m (lw_char a1) a2)) ∧ τ = m_symbol si_m (lw_char a1) a2) ⟨rfl, rfl⟩)
    subst e1
    have hr := sy_rel si_m σ1 (lw_char a1)
    obtain ⟨v2, σ2, g2, e3⟩ := evm_of (p1_symbol_m (σ := σ1) (c := lw_char a1) (a := a2) (hr.elim (fun h => Or.inl h.1) (fun ⟨j, h1, h2, _⟩ => Or.inr ⟨j, h1, h2⟩)) (Q := fun v τ => v = some (.inl (if r_symbolOf σ1 (lw_char a1) < 0 then 0 else if a2 < (-1) then 0 else if a2 ≤ 2 then 1 else 0))) (fun _ => rfl))
    subst e3
    refine ⟨_, _, σ1, σ2, g1, g2, ?_, triv σ2⟩
    unfold r_symbol
    rcases hr with ⟨h1, h2⟩ | ⟨j, hj, h1, h2⟩
    · rw [if_pos h1]
      rcases h2 with h2 | h2
      · rw [if_pos h2]
      · by_cases h3 : r_codeOf si_m (lw_char a1) < 0
        · rw [if_pos h3]
        · rw [if_neg h3, if_pos h2]
    · have q1 : ¬ nI j < 0 := nI_pos (by omega)
      have q2 : ¬ 8 ≤ nI j := nI_ge (b := 8) hj (by decide)
      rw [h1, h2, if_neg q1, if_neg q2, if_neg q1]
  · intro σ a1 a2 a3 hs
    rw [hs rfl]
    obtain ⟨v, σ1, g1, e1, e2⟩ := evm_of (ty_class (σ := si_m) (a := 0) (lw_long a1 a2) a3 rfl (by omega) (Q := fun v τ => v = some (.inl (tyR (lw_long a1 a2) a3 0)) ∧ τ = tyM (lw_long a1 a2) a3 0 (ap_c (lw_long a1 a2)) si_m) ⟨rfl, rfl⟩)
    subst e1
    have h50 : σ1 50 2 = nI 0 := by
      rw [e2]
      unfold tyM
      split
      · rfl
      · split
        · rfl
        · cases vis (lw_long a1 a2) a3.toNatClampNeg with
          | false => rfl
          | true =>
            simp only [cond_true]
            split
            · rename_i h1 h2 h3
              exact congrFun (ap_c_50 (lw_long a1 a2) _ (a := 0) (σ := si_m) rfl h3 (q := 50) (by decide)) 2
            · rfl
    obtain ⟨v2, σ2, g2, e3⟩ := evm_of (ty_model (σ := σ1) (a := 0) (lw_long a1 a2) a3 h50 (by omega) (Q := fun v τ => v = some (.inl (tyR (lw_long a1 a2) a3 0))) rfl)
    subst e3
    exact ⟨_, _, σ1, σ2, g1, g2, rfl, triv σ2⟩
  · intro σ a1 a2 a3 hs
    exact two hs p1_k_clause
  · intro σ a1 a2 a3 hs
    exact two hs p1_k_drop
  · intro σ a1 a2 a3 hs
    rw [hs rfl]
    by_cases h1 : a1 < 1
    · obtain ⟨v, σ1, g1, e1⟩ := evm_of (M := mX7_find) (as := [.inr (.inr 0), .inl a1]) (s_X7_find_0 (σ := si_m) (x1 := a1) (Q := fun v _ => v = some (.inl (-1))) (s_X4_countAnew_0 ⟨rfl, fun _ => rfl, fun h => absurd h1 h⟩))
      subst e1
      obtain ⟨v2, σ2, g2, e2⟩ := evm_of (M := mX8_find) (as := [.inr (.inr 50), .inl a1]) (s_X8_find_0 (σ := σ1) (x1 := a1) (Q := fun v _ => v = some (.inl (-1))) ⟨fun _ => rfl, fun h => absurd h1 h⟩)
      subst e2
      exact ⟨_, _, σ1, σ2, g1, g2, rfl, triv σ2⟩
    · by_cases h4 : a1 ≤ 4
      · obtain ⟨v, σ1, g1, e1, e2⟩ := evm_of (p1_find_c h1 h4 (Q := fun v τ => v = some (.inl 1) ∧ ∀ q, 50 ≤ q → τ q = si_m q) (fun τ h => ⟨rfl, h⟩))
        subst e1
        obtain ⟨v2, σ2, g2, e3⟩ := evm_of (p1_find_m (σ := σ1) e2 h1 h4 (Q := fun v _ => v = some (.inl 1)) (fun _ => rfl))
        subst e3
        exact ⟨_, _, σ1, σ2, g1, g2, rfl, triv σ2⟩
      · obtain ⟨v, σ1, g1, e1⟩ := evm_of (M := mX7_find) (as := [.inr (.inr 0), .inl a1]) (s_X7_find_0 (σ := si_m) (x1 := a1) (Q := fun v _ => v = some (.inl (-1))) (s_X4_countAnew_0 ⟨rfl, fun _ => rfl, fun _ => ⟨fun h => absurd h h4, fun _ => rfl⟩⟩))
        subst e1
        obtain ⟨v2, σ2, g2, e2⟩ := evm_of (M := mX8_find) (as := [.inr (.inr 50), .inl a1]) (s_X8_find_0 (σ := σ1) (x1 := a1) (Q := fun v _ => v = some (.inl (-1))) ⟨fun _ => rfl, fun _ => ⟨fun h => absurd h h4, fun _ => rfl⟩⟩)
        subst e2
        exact ⟨_, _, σ1, σ2, g1, g2, rfl, triv σ2⟩
  · intro σ a1 a2 a3 hs
    exact two hs p1_k_more
  · intro σ a1 a2 a3 hs
    exact two hs p1_k_size
  · intro σ a1 a2 a3 hs
    rw [hs rfl]
    obtain ⟨v, σ1, g1, e1, e2⟩ := evm_of (p1_value_c (c := lw_char a1) (i := a2) (j := a3) (Q := fun v τ => v = some (.inl (-1)) ∧ τ = si_m) ⟨rfl, rfl⟩)
    subst e1
    subst e2
    obtain ⟨v2, σ2, g2, e3⟩ := evm_of (p1_value_m (c := lw_char a1) (i := a2) (j := a3) (Q := fun v τ => v = some (.inl (-1))) rfl)
    subst e3
    exact ⟨_, _, _, σ2, g1, g2, rfl, triv σ2⟩
  · intro σ a1 a2 a3 hs
    exact two hs p1_k_tries
  · intro σ a1 a2 a3 hs
    exact two hs p1_k_check
  · intro σ a1 a2 a3 hs
    rw [hs rfl]
    have hin : ¬ a1 < 0 → (a1 < 3 ∨ ¬ 2 < a1) → ab_in a1 3 = true := by
      intro h h2
      simp only [Int32.lt_iff_toInt_lt] at h h2
      rw [li_0] at h
      rw [li_3, li_2] at h2
      exact ab_in_of (by omega) (by omega)
    obtain ⟨v, σ1, g1, e1, e2⟩ := evm_of (M := mX7_caseOf) (as := [.inr (.inr 0), .inl a1]) (s_X7_caseOf_0 (σ := si_m) (x1 := a1) (Q := fun v τ => v = some (.inl (if a1 < 0 then -1 else if a1 < 3 then 0 else -1)) ∧ τ = si_m) ⟨fun h => by rw [if_pos h]; exact ⟨rfl, rfl⟩, fun h => ⟨fun h2 => ⟨hin h (Or.inl h2), by rw [if_neg h, if_pos h2]; exact ⟨rfl, rfl⟩⟩, fun h2 => by rw [if_neg h, if_neg h2]; exact ⟨rfl, rfl⟩⟩⟩)
    subst e1
    subst e2
    have e23 : (2 < a1) ↔ ¬ a1 < 3 := by
      simp only [Int32.lt_iff_toInt_lt]
      rw [li_3, li_2]
      omega
    obtain ⟨v2, σ2, g2, e3⟩ := evm_of (M := mX8_caseOf) (as := [.inr (.inr 50), .inl a1]) (s_X8_caseOf_0 (σ := si_m) (x1 := a1) (Q := fun v τ => v = some (.inl (if a1 < 0 then -1 else if a1 < 3 then 0 else -1))) ⟨fun h => by rw [if_pos h], fun h => ⟨fun h2 => by rw [if_neg h, if_neg (e23.mp h2)], fun h2 => ⟨hin h (Or.inr h2), by rw [if_neg h, if_pos (Classical.not_not.mp (fun q => h2 (e23.mpr q)))]; rfl⟩⟩⟩)
    subst e3
    exact ⟨_, _, _, σ2, g1, g2, rfl, triv σ2⟩
  · intro σ a1 a2 a3 hs
    exact two hs p1_k_clauses
/-- YOUR PART: from the entry, for every script of at most 4 ints, the law comes to its end with true -/
theorem whole_start {p : Program} {e : Env} {s : State} {m : MethodId} {below : List Frame} {meth : Method} {c : Code} (l : Launch) {b L : Nat} {xs : Nat → Int32} (hL : L ≤ 4) (C0 : lw_At p s m meth c b L xs) : W p l e room_1 s m #[Value.ref b] below meth c s.heap [] 0 0 (lw_Z below #[Value.ref b] s) (entryFrame m ([Value.ref b] : List Value).toArray 4) :=
  lw_whole l (by omega) (fun j σ => j = 0 → σ = si_m) (fun j hj => p1_step j (by omega)) (fun _ => rfl) C0
-- ===== YOUR PART ENDS =====
set_option maxHeartbeats 4000000 in
theorem lw_walk (l : Launch) (b : Addr) (xs : List Int32) : MetFree l x (headSpec (Jvm.Cond.code x code maxLocals ret :: tables_1) room_1) (lw_P b xs) (fun _ _ _ _ _ => True) lw_Q := by
  refine MetFree.of_bodyS (code := code) (maxLocals := maxLocals) (ret := ret) (by decide) ?_ ?_
  · intro args s m h hn
    obtain ⟨meth, c, h1, h2, h3, h4, h5, h6, -, -⟩ := Cond.code_spec hn (atoms_spec (ws := Jvm.Cond.code x code maxLocals ret :: tables_1) h _ List.mem_cons_self)
    exact ⟨meth, c, h1, h2, h3, h4, h5, h6⟩
  · intro p e s m args below meth c s₁ B hml0 hP _
    obtain ⟨rfl, hx, hbd, hgv⟩ := hP
    obtain ⟨scr, harrAt, hlist, hof, hsmall⟩ := hx
    obtain ⟨hcb, hkn, -, -⟩ := State.arrayAt?_spec harrAt
    have hown : s.vm.findClass R_law = some m.cls := findClass_of_methodNamed B.named
    have hts0 : ∀ c ∈ (Jvm.Cond.code x code maxLocals ret :: tables_1), c.before #[Value.ref b] s = true := atoms_spec (ws := Jvm.Cond.code x code maxLocals ret :: tables_1) B.pre
    have hts : ∀ w ∈ lw_tbl, w.before #[Value.ref b] s = true := k2_hts_sels lw_privs (fun w hw => hts0 w (List.mem_cons_of_mem _ hw)) lw_privs_ok
    have hml : c.maxLocals = 4 := B.maxLocals_eq (hts0 _ List.mem_cons_self)
    have X₀ : Stand p l e room_1 s m #[Value.ref b] below meth c s₁ [] 0 0 := Stand.of_body B
    have hh0 : s₁.heap = s.heap := by rw [B.state]; rfl
    have hsz : scr.slots.size = xs.length := by rw [← Array.length_toList, hlist, List.length_map]
    have hval : ∀ j : Nat, j < xs.length → scr.slots[j]? = some (.int (xs.getD j 0)) := fun j hj => by
      rw [← Array.getElem?_toList, hlist]
      simp [hj]
    have hbl : b < s.heap.size := (Array.getElem?_eq_some_iff.mp hcb).1
    have hX : va_X b xs.length (fun j => xs.getD j 0) s s.heap := ⟨scr, hcb, hof, hkn, hsz, hval⟩
    have K : W p l e room_1 s m #[Value.ref b] below meth c s₁.heap [] 0 0 (lw_Z below #[Value.ref b] s) (entryFrame m ([Value.ref b] : List Value).toArray 4) := by
      rw [hh0]
      exact whole_start l hbd ⟨B.exec, B.bytes, B.returns, hml, hown, hts, hX, hbl, B.notSynchronized, hgv⟩
    obtain ⟨t, a1, o, b1, b2, b3⟩ := K s₁ rfl X₀
    exact ⟨t, o, a1, b1, b2, b3⟩
theorem lw_pre_spec {args : Array Value} {s : State} (h : (Jvm.Cond.and given_1 narrow_1).before args s = true) (hr : rest_1_c.before args s = true) : ∃ (b : Addr) (xs : List Int32), lw_P b xs args s := by
  have hs := flat_of_before _ h
  have hq := flat_of_before _ hr
  have hc : (Cond.count 1).before args s = true := hs _ (by decide +kernel)
  have harr : (Cond.arrayOf (.arg 0) .int).before args s = true := hs _ (by decide +kernel)
  have hle : (Cond.le (.length (.arg 0)) (.int 4)).before args s = true := hs _ (by decide +kernel)
  have hlen : (Cond.isInt (.length (.arg 0))).before args s = true := hq _ (by decide +kernel)
  have hall : (Cond.all (.arg 0) (.isInt (.elem (.arg 0) (.index 0)))).before args s = true := hq _ (by decide +kernel)
  obtain ⟨b, xs, hb, hx⟩ := State.ints_of_pre rfl harr hlen hall
  have hsm : xs.length < 2 ^ 31 := hx.choose_spec.2.2.2
  have hev : (Term.length (.arg 0)).eval args s none [] s = some (.int xs.length.toInt32) := hx.length_eval hb
  have hv := Cond.le_ints hev (show (Term.int 4).eval args s none [] s = some (.int 4) from rfl)
  have hd : xs.length.toInt32 ≤ 4 := by
    simpa [Cond.before, Cond.holds, hv] using hle
  have hN : xs.length ≤ 4 := (Int32.ofNat_le_ofNat hsm (by decide)).mp (show Int32.ofNat xs.length ≤ Int32.ofNat 4 from hd)
  exact ⟨b, xs, Cond.one_arg hc (show args[0]? = some (.ref b) from hb), hx, hN, h⟩
theorem lw_comes (l : Launch) : Comes l x (Jvm.Cond.code x code maxLocals ret :: tables_1) room_1 (fun tb e args s => Calls_1 tb e args s ∧ rest_1 tb e args s ∧ Pre_1 tb e args s)
    (fun _ _ args s o t => lw_Q args s o t) := by
  intro p e ha hc hk s m args below hf hfit hheap happ hpre
  obtain ⟨b, xs, hP⟩ := lw_pre_spec hpre.2.2 hpre.2.1
  obtain ⟨k, o, h1, h2, h3, hQ⟩ := lw_walk l b xs p e ha hc hk s m args below hf ((Spec.applies_iff_loose hf).mp happ).1 hP trivial
  exact ⟨k, o, h1, h2, h3, hQ⟩
theorem lw_frame {s t : State} {o : Outcome} {args : Array Value} (h : Framed s o t [] 600000 7302250) :
    Framed s o t (fieldLocs frame_1_writes args s ++ arrayLocs frame_1_arrays args s ++ staticLocs frame_1_statics s) 600000 7302250 := h
theorem lw_limb (L : Cond) (hL : ∀ (args : Array Value) (s t : State), L.after args s (.returned (some (.int 1))) t = true) :
    ArmFor flags0 classFile x code maxLocals ret World_1 tables_1 room_1 Calls_1 rest_1 Pre_1
      (fun tb e a s o t => postC L tb e a s o t ∧ Framed s o t (fieldLocs frame_1_writes a s ++ arrayLocs frame_1_arrays a s ++ staticLocs frame_1_statics s) 600000 7302250) := by
  intro l _ _ _ p e ha hc hk s m args below hf hfit hheap happ hpre
  obtain ⟨k, o, h1, h2, h3, rfl, hF⟩ := lw_comes l p e ha hc hk s m args below hf hfit hheap happ hpre
  exact ⟨k, _, h1, h2, h3, hL args s _, lw_frame hF⟩
theorem i_vc : Claimed_1_1 ∧ Claimed_1_2 := ⟨lw_limb limb_1_1 (fun args s t => by simp [limb_1_1, Cond.after, Cond.holds, Cond.value]), lw_limb limb_1_2 (fun args s t => Cond.after_iff.mpr (by
  first | (rw [show limb_1_2 = Cond.eq .result (.int 1) from rfl, Cond.eq_ints (x := 1) (y := 1) rfl rfl]; simp; done) | (simp [limb_1_2, Cond.value, Term.eval]; done)))⟩

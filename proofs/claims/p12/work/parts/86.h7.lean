section SBG
variable {σ : ab_M} {Q : Option ab_V → ab_M → Prop}
def JP (ar : Nat → Int32) (ord : Nat → Nat) (c : Nat) (Lc : Nat → Nat) (Tc : Nat → Nat → Nat) (m n r : Nat) (V : Nat → Nat) (σ : ab_M) : Prop := ∀ i x y z, vld m Lc Tc n i x y z → ∃ g ms, rec (ins i x y z) g ms σ ∧ jp ord c V r g ms (brk ar Lc Tc i x y z)
theorem rec_inj {I g ms g' ms' : Nat} (h : rec I g ms σ) (h' : rec I g' ms' σ) : g = g' ∧ ms = ms' := by
  obtain ⟨a1, a2, a3, a4⟩ := h
  obtain ⟨b1, b2, b3, b4⟩ := h'
  refine ⟨?_, (nI_eq (by omega) (by omega)).mp (a4.symm.trans b4)⟩
  have e := a3.symm.trans b3
  have h1 := (dn_le2 (a := g) (b := g') (by omega) (by omega)).mp (by rw [e]; exact Int32.le_refl _)
  have h2 := (dn_le2 (a := g') (b := g) (by omega) (by omega)).mp (by rw [e]; exact Int32.le_refl _)
  omega
theorem chz_le {T : Nat → Nat} {L v n : Nat} (n1 : 1 ≤ n) : chz T L v n ≤ n := by
  unfold chz
  cases hasv T L v with
  | false => exact n1
  | true => exact Nat.le_refl _
set_option maxHeartbeats 2000000 in
/-- isSomeBroken with the rank r - 1 : whether some choice is broken; what is kept stays right -/
theorem sb_f {V : Nat → Nat} {n m c r : Nat} {ord : Nat → Nat} {Lc : Nat → Nat} {Tc : Nat → Nat → Nat} (har : ∀ j, j < 8 → arok (σ 2 j)) (n1 : 1 ≤ n) (n4 : n ≤ 4) (hO : OK (σ 2) n ord c) (hOC : OC n ord c σ) (hT : CT m Lc Tc σ) (hV : VVc V σ) (hVr : Vr n ord c r V) (hr : r ≤ c) (hCA : CA σ) (hJ : 1 ≤ r → JP (σ 2) ord c Lc Tc m n (r - 1) V σ)
    (k1 : ∀ τ, fK σ τ → (∃ i x y z, vld m Lc Tc n i x y z ∧ brk (σ 2) Lc Tc i x y z V = true) → CA τ → (1 ≤ r → JP (σ 2) ord c Lc Tc m n (r - 1) V τ) → Q (some (.inl 1)) τ)
    (k0 : ∀ τ, fK σ τ → (∀ i x y z, vld m Lc Tc n i x y z → brk (σ 2) Lc Tc i x y z V = false) → CA τ → JP (σ 2) ord c Lc Tc m n r V τ → Q (some (.inl 0)) τ) : evm mX4_isSomeBroken [.inr (.inr 45), .inl (dn r)] σ Q := by
  obtain ⟨hm, h51, hcl⟩ := hT
  have c128 := hO.1
  -- what holds before the choice of number N
  let H : Nat → ab_M → Prop := fun N τ => fK σ τ ∧ CA τ ∧ (1 ≤ r → JP (σ 2) ord c Lc Tc m n (r - 1) V τ) ∧ (∀ i x y z, vld m Lc Tc n i x y z → ins i x y z < N → brk (σ 2) Lc Tc i x y z V = false ∧ ∃ g ms, rec (ins i x y z) g ms τ ∧ jp ord c V r g ms (brk (σ 2) Lc Tc i x y z))
  have bd : ∀ i x y z, vld m Lc Tc n i x y z → x < 4 ∧ y < 4 ∧ z < 4 := by
    intro i x y z h
    have a := chz_le (T := Tc i) (L := Lc i) (v := 0) n1
    have b := chz_le (T := Tc i) (L := Lc i) (v := 1) n1
    have d := chz_le (T := Tc i) (L := Lc i) (v := 2) n1
    obtain ⟨_, h1, h2, h3⟩ := h
    omega
  have rows : ∀ (d i : Nat) (τ : ab_M) (o4 o5 o6 o7 o8 o9 o10 o11 : Option ab_V), i + d = m → H (ins i 0 0 0) τ → ev mX4_isSomeBroken 10 [some (.inr (.inr 45)), some (.inl (dn r)), some (.inl (nI n)), some (.inl (nI i)), o4, o5, o6, o7, o8, o9, o10, o11] [] τ Q := by
    intro d
    induction d with
    | zero =>
      intro i τ o4 o5 o6 o7 o8 o9 o10 o11 hi hH
      obtain ⟨f1, ca, _, hp⟩ := hH
      refine s_X4_isSomeBroken_10 (s_X2_count_0 ⟨_, rfl, ?_⟩)
      rw [f1 5 (by omega), h51]
      have al : ∀ i' x y z, vld m Lc Tc n i' x y z → ins i' x y z < ins i 0 0 0 := by
        intro i' x y z h
        obtain ⟨b1, b2, b3⟩ := bd i' x y z h
        have := h.1
        unfold ins
        omega
      exact ⟨fun _ => k0 τ f1 (fun i x y z h => (hp i x y z h (al i x y z h)).1) ca (fun i x y z h => (hp i x y z h (al i x y z h)).2), fun h => absurd (nI_le (by omega) (by omega)) h⟩
    | succ d ih =>
      intro i τ o4 o5 o6 o7 o8 o9 o10 o11 hi hH
      have f1 := hH.1
      have hc : Cl (7 + 3 * i) := ⟨i, by omega, rfl⟩
      obtain ⟨c0, c1, c2⟩ := Cl_sh hc
      obtain ⟨hL, hK, hTt, hau⟩ := hcl i (by omega)
      have hKt : ∀ υ, fK σ υ → Kp (7 + 3 * i) (Tc i) (Lc i) υ := by
        intro υ u1
        unfold Kp
        rw [u1 (7 + 3 * i) (by omega), u1 (7 + 3 * i + 1) (by omega), u1 (7 + 3 * i + 2) (by omega)]
        exact hK
      refine s_X4_isSomeBroken_10 (s_X2_count_0 ⟨_, rfl, ?_⟩)
      rw [f1 5 (by omega), h51]
      refine ⟨fun h => absurd h (nI_ge (by omega) (by omega)), fun _ => ?_⟩
      refine at_s (by omega) ⟨_, rfl, ⟨_, c0⟩, ?_⟩
      refine ch_f (v := 0) hc (by decide) (hKt τ f1) ⟨_, rfl, ⟨_, c0⟩, ?_⟩
      refine ch_f (v := 1) hc (by decide) (hKt τ f1) ⟨_, rfl, ⟨_, c0⟩, ?_⟩
      refine ch_f (v := 2) hc (by decide) (hKt τ f1) ⟨_, rfl, ?_⟩
      have hX4 : chz (Tc i) (Lc i) 0 n ≤ n := chz_le n1
      have hY4 : chz (Tc i) (Lc i) 1 n ≤ n := chz_le n1
      have hZ4 : chz (Tc i) (Lc i) 2 n ≤ n := chz_le n1
      obtain ⟨X, eX⟩ : ∃ X, X = chz (Tc i) (Lc i) 0 n := ⟨_, rfl⟩
      obtain ⟨Y, eY⟩ : ∃ Y, Y = chz (Tc i) (Lc i) 1 n := ⟨_, rfl⟩
      obtain ⟨Z, eZ⟩ : ∃ Z, Z = chz (Tc i) (Lc i) 2 n := ⟨_, rfl⟩
      rw [← eX, ← eY, ← eZ]
      -- a step over numbers that no choice has
      have skip : ∀ N N' υ, H N υ → (∀ i' x y z, vld m Lc Tc n i' x y z → ins i' x y z < N' → ins i' x y z < N) → H N' υ := fun N N' υ h hs => ⟨h.1, h.2.1, h.2.2.1, fun i' x y z hv hl => h.2.2.2 i' x y z hv (hs i' x y z hv hl)⟩
      have inI : ∀ i' x y z, vld m Lc Tc n i' x y z → i' = i → x < X ∧ y < Y ∧ z < Z := by
        intro i' x y z h e
        subst e
        rw [eX, eY, eZ]
        exact h.2
      have xl : ∀ (dx a : Nat) (υ : ab_M) (o9 o10 o11 : Option ab_V), a + dx = X → H (ins i a 0 0) υ → ev mX4_isSomeBroken 61 [some (.inr (.inr 45)), some (.inl (dn r)), some (.inl (nI n)), some (.inl (nI i)), some (.inr (.inr (7 + 3 * i))), some (.inl (nI X)), some (.inl (nI Y)), some (.inl (nI Z)), some (.inl (nI a)), o9, o10, o11] [] υ Q := by
        intro dx
        induction dx with
        | zero =>
          intro a υ o9 o10 o11 ha u1
          refine s_X4_isSomeBroken_61 ⟨fun _ => ?_, fun h => absurd (nI_le (by omega) (by omega)) h⟩
          rw [nI_1]
          refine ih (i + 1) υ _ _ _ _ _ _ _ _ (by omega) (skip _ _ υ u1 (fun i' x y z hv hl => ?_))
          obtain ⟨b1, b2, b3⟩ := bd i' x y z hv
          have := inI i' x y z hv
          unfold ins at hl ⊢
          omega
        | succ dx ihx =>
          intro a υ o9 o10 o11 ha u1
          refine s_X4_isSomeBroken_61 ⟨fun h => absurd h (nI_ge (by omega) (by omega)), fun _ => ?_⟩
          have yl : ∀ (dy b : Nat) (υ : ab_M) (o10 o11 : Option ab_V), b + dy = Y → H (ins i a b 0) υ → ev mX4_isSomeBroken 71 [some (.inr (.inr 45)), some (.inl (dn r)), some (.inl (nI n)), some (.inl (nI i)), some (.inr (.inr (7 + 3 * i))), some (.inl (nI X)), some (.inl (nI Y)), some (.inl (nI Z)), some (.inl (nI a)), some (.inl (nI b)), o10, o11] [] υ Q := by
            intro dy
            induction dy with
            | zero =>
              intro b υ o10 o11 hb u1
              refine s_X4_isSomeBroken_71 ⟨fun _ => ?_, fun h => absurd (nI_le (by omega) (by omega)) h⟩
              rw [nI_1]
              refine ihx (a + 1) υ _ _ _ (by omega) (skip _ _ υ u1 (fun i' x y z hv hl => ?_))
              obtain ⟨b1, b2, b3⟩ := bd i' x y z hv
              have := inI i' x y z hv
              unfold ins at hl ⊢
              omega
            | succ dy ihy =>
              intro b υ o10 o11 hb u1
              refine s_X4_isSomeBroken_71 ⟨fun h => absurd h (nI_ge (by omega) (by omega)), fun _ => ?_⟩
              have zl : ∀ (dz e : Nat) (υ : ab_M) (o11 : Option ab_V), e + dz = Z → H (ins i a b e) υ → ev mX4_isSomeBroken 81 [some (.inr (.inr 45)), some (.inl (dn r)), some (.inl (nI n)), some (.inl (nI i)), some (.inr (.inr (7 + 3 * i))), some (.inl (nI X)), some (.inl (nI Y)), some (.inl (nI Z)), some (.inl (nI a)), some (.inl (nI b)), some (.inl (nI e)), o11] [] υ Q := by
                intro dz
                induction dz with
                | zero =>
                  intro e υ o11 he u1
                  refine s_X4_isSomeBroken_81 ⟨fun _ => ?_, fun h => absurd (nI_le (by omega) (by omega)) h⟩
                  rw [nI_1]
                  refine ihy (b + 1) υ _ _ (by omega) (skip _ _ υ u1 (fun i' x y z hv hl => ?_))
                  obtain ⟨b1, b2, b3⟩ := bd i' x y z hv
                  have := inI i' x y z hv
                  unfold ins at hl ⊢
                  omega
                | succ dz ihz =>
                  intro e υ o11 he hH
                  have hv : vld m Lc Tc n i a b e := ⟨by omega, by omega, by omega, by omega⟩
                  have hj : ins i a b e < 512 := by unfold ins; omega
                  have uq : ∀ i' x y z, vld m Lc Tc n i' x y z → ins i' x y z = ins i a b e → i' = i ∧ x = a ∧ y = b ∧ z = e := by
                    intro i' x y z h q
                    obtain ⟨b1, b2, b3⟩ := bd i' x y z h
                    unfold ins at q
                    omega
                  obtain ⟨u1, ca, uj, up⟩ := id hH
                  refine s_X4_isSomeBroken_81 ⟨fun h => absurd h (nI_ge (by omega) (by omega)), fun _ => ?_⟩
                  refine s_X4_instanceOf_0 ⟨_, rfl, ?_⟩
                  rw [nI4, nI4, nI4, nI_1]
                  have ei : ((i * 4 + a) * 4 + b) * 4 + e = ins i a b e := rfl
                  rw [ei]
                  obtain ⟨g, ms, hrec⟩ := ca _ hj
                  obtain ⟨r1, r2, r3, r4⟩ := id hrec
                  -- behind the choice, without a look
                  have look : evm mX3_isBroken [.inr (.inr 42), .inr (.inr (7 + 3 * i)), .inl (nI a), .inl (nI b), .inl (nI e)] υ (fun v τ5 => ∃ r6 : Int32, v = some (.inl r6) ∧ ((r6 = 0 → evm mX3_greatestRead [.inr (.inr 42)] τ5 (fun v τ7 => ∃ r8 : Int32, v = some (.inl r8) ∧ ab_in (nI (ins i a b e)) 512 = true ∧ evm mX3_missing [.inr (.inr 42)] (ab_upd τ7 46 (ins i a b e) r8) (fun v τ9 => ∃ r10 : Int32, v = some (.inl r10) ∧ ab_in (nI (ins i a b e)) 512 = true ∧ ev mX4_isSomeBroken 81 [some (.inr (.inr 45)), some (.inl (dn r)), some (.inl (nI n)), some (.inl (nI i)), some (.inr (.inr (7 + 3 * i))), some (.inl (nI X)), some (.inl (nI Y)), some (.inl (nI Z)), some (.inl (nI a)), some (.inl (nI b)), some (.inl (nI (e + 1))), some (.inl (nI (ins i a b e)))] [] (ab_upd τ9 47 (ins i a b e) r10) Q))) ∧ (¬ r6 = 0 → Q (some (.inl 1)) τ5))) := by
                    have a2 : υ 2 = σ 2 := u1 2 (by omega)
                    have a40 : υ 40 = σ 40 := u1 40 (by omega)
                    refine ib_f (V := V) hc hL (hKt υ u1) hTt (by rw [a2]; exact har) (by rw [a2]; exact hau) (fun k hk => by rw [u1 38 (by omega)]; exact hV k hk) (by omega) (by omega) (by omega) (fun ω w1 w6 w7 => ⟨_, rfl, ?_⟩)
                    rw [a2, a40] at w6 w7
                    rw [a2]
                    have fw : fK σ ω := u1.tr (fK.of w1)
                    have recw : ∀ I g ms, rec I g ms υ → rec I g ms ω := fun I g ms h => ⟨h.1, h.2.1, by rw [w1 46 (by omega)]; exact h.2.2.1, by rw [w1 47 (by omega)]; exact h.2.2.2⟩
                    cases hb2 : brk (σ 2) Lc Tc i a b e V with
                    | true =>
                      have hb3 : (lk V (σ 2) (Tc i) (nm a b e) (Lc i) [] false).1 = true := hb2
                      rw [hb3]
                      refine ⟨fun q => absurd q (by decide), fun _ => k1 ω fw ⟨i, a, b, e, hv, hb2⟩ (fun I hI => ?_) (fun h1 i' x y z hv' => ?_)⟩
                      · obtain ⟨g, ms, h⟩ := ca I hI
                        exact ⟨g, ms, recw _ _ _ h⟩
                      · obtain ⟨g, ms, h, h'⟩ := uj h1 i' x y z hv'
                        exact ⟨g, ms, recw _ _ _ h, h'⟩
                    | false =>
                      have hb3 : (lk V (σ 2) (Tc i) (nm a b e) (Lc i) [] false).1 = false := hb2
                      rw [hb3]
                      refine ⟨fun _ => ?_, fun q => absurd rfl q⟩
                      obtain ⟨g', ms', q1, q2, q3, q4, q5⟩ := fresh (V := V) (m := m) har n1 n4 hO hVr hr hL hTt hau hv (σ 40) (fun k hk => (hOC.2.2 k hk).2) hb2
                      refine s_X3_greatestRead_0 ⟨_, rfl, inN hj (by decide), ?_⟩
                      refine s_X3_missing_0 ⟨_, rfl, inN hj (by decide), ?_⟩
                      rw [ab_upd_off (q := 46) (a := 42) _ _ (by decide), w6, w7, q3, q4]
                      have n46 : ∀ t, (ab_upd (ab_upd ω 46 (ins i a b e) (dn g')) 47 (ins i a b e) (nI ms')) 46 t = if t = ins i a b e then dn g' else υ 46 t := fun t => by
                        rw [ab_upd_off _ _ (by decide), ab_upd_eq, w1 46 (by omega)]
                        simp
                      have n47 : ∀ t, (ab_upd (ab_upd ω 46 (ins i a b e) (dn g')) 47 (ins i a b e) (nI ms')) 47 t = if t = ins i a b e then nI ms' else υ 47 t := fun t => by
                        rw [ab_upd_eq, ab_upd_off _ _ (by decide), w1 47 (by omega)]
                        simp
                      have nrec : rec (ins i a b e) g' ms' (ab_upd (ab_upd ω 46 (ins i a b e) (dn g')) 47 (ins i a b e) (nI ms')) := ⟨q1, q2, by rw [n46, if_pos rfl], by rw [n47, if_pos rfl]⟩
                      have orec : ∀ I g ms, I ≠ ins i a b e → rec I g ms υ → rec I g ms (ab_upd (ab_upd ω 46 (ins i a b e) (dn g')) 47 (ins i a b e) (nI ms')) := fun I g ms hI h => ⟨h.1, h.2.1, by rw [n46, if_neg hI]; exact h.2.2.1, by rw [n47, if_neg hI]; exact h.2.2.2⟩
                      refine ihz (e + 1) _ _ (by omega) ⟨(fw.up (Or.inl rfl)).up (Or.inr rfl), fun I hI => ?_, fun h1 i' x y z hv' => ?_, fun i' x y z hv' hl => ?_⟩
                      · by_cases eI : I = ins i a b e
                        · exact ⟨g', ms', by rw [eI]; exact nrec⟩
                        · obtain ⟨g, ms, h⟩ := ca I hI
                          exact ⟨g, ms, orec _ _ _ eI h⟩
                      · by_cases eI : ins i' x y z = ins i a b e
                        · obtain ⟨d1, d2, d3, d4⟩ := uq i' x y z hv' eI
                          subst d1 d2 d3 d4
                          exact ⟨g', ms', nrec, by have := q5.1; omega, q5.2.1, fun hg => q5.2.2 (by omega)⟩
                        · obtain ⟨g, ms, h, h'⟩ := uj h1 i' x y z hv'
                          exact ⟨g, ms, orec _ _ _ eI h, h'⟩
                      · by_cases eI : ins i' x y z = ins i a b e
                        · obtain ⟨d1, d2, d3, d4⟩ := uq i' x y z hv' eI
                          subst d1 d2 d3 d4
                          exact ⟨hb2, g', ms', nrec, q5⟩
                        · have hl2 : ins i' x y z < ins i a b e := by unfold ins at hl eI ⊢; omega
                          obtain ⟨h0, g, ms, h, h'⟩ := up i' x y z hv' hl2
                          exact ⟨h0, g, ms, orec _ _ _ eI h, h'⟩
                  have ge := dn_le2 (a := r) (b := g) (by omega) (by omega)
                  have gl := dn_lt2 (a := r) (b := ms) (by omega) r2
                  refine s_X4_needsLook_0 ⟨inN hj (by decide), ?_⟩
                  rw [nI_clamp (by omega), r3, r4]
                  refine ⟨fun _ => ⟨_, rfl, fun q => absurd q (by decide), fun _ => look⟩, fun z1 => ⟨inN hj (by decide), fun z2 => ⟨_, rfl, fun _ => ?_, fun q => absurd rfl q⟩, fun _ => ⟨_, rfl, fun q => absurd q (by decide), fun _ => look⟩⟩⟩
                  have y1 : g < r := by
                    rcases Nat.lt_or_ge g r with q | q
                    · exact q
                    · exact absurd (ge.mpr q) z1
                  have y2 : r ≤ ms := gl.mp z2
                  obtain ⟨g2, ms2, h2, h3⟩ := uj (by omega) i a b e hv
                  obtain ⟨rfl, rfl⟩ := rec_inj hrec h2
                  have nb : ∀ V' : Nat → Nat, (∀ k, k < g → k < c → V' (ord k) = V (ord k)) → (ms < 128 → V' (ord ms) = 0) → brk (σ 2) Lc Tc i a b e V' = false := h3.2.2 (by omega)
                  have b0 : brk (σ 2) Lc Tc i a b e V = false := nb V (fun _ _ _ => rfl) (fun h => by
                    rcases Nat.eq_zero_or_pos (V (ord ms)) with q | q
                    · exact q
                    · have := (hVr.1 ms (h3.2.1 h)).mp (by omega)
                      omega)
                  refine ihz (e + 1) υ _ (by omega) ⟨u1, ca, uj, fun i' x y z hv' hl => ?_⟩
                  by_cases eI : ins i' x y z = ins i a b e
                  · obtain ⟨d1, d2, d3, d4⟩ := uq i' x y z hv' eI
                    subst d1 d2 d3 d4
                    exact ⟨b0, g, ms, hrec, y2, h3.2.1, fun _ => nb⟩
                  · exact up i' x y z hv' (by unfold ins at hl eI ⊢; omega)
              exact zl Z 0 υ _ (by omega) u1
          exact yl Y 0 υ _ _ (by omega) u1
      exact xl X 0 τ _ _ _ (by omega) hH
  refine s_X4_isSomeBroken_0 (s_X6_sizeLaid_0 ⟨_, rfl, ?_⟩)
  rw [hOC.1]
  exact rows m 0 σ _ _ _ _ _ _ _ _ (by omega) ⟨fK.rf, hCA, hJ, fun i x y z _ h => by unfold ins at h; omega⟩
end SBG

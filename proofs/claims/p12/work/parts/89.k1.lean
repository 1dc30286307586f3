theorem w_symbol {σ : ab_M} (h : IW σ) (c a : Int32) : ∃ (v1 v2 : Int32) (σ1 σ2 : ab_M), ev0 mX7_symbol [.inr (.inr 0), .inl c, .inl a] σ (some (.inl v1)) σ1 ∧ ev0 mX8_symbol [.inr (.inr 50), .inl c, .inl a] σ1 (some (.inl v2)) σ2 ∧ v1 = v2 ∧ IW σ2 := by
  obtain ⟨m, u, b, Lc, Tc, o, hC, hR, hE, h4⟩ := h
  obtain ⟨v, σ1, g1, e1⟩ := evm_of (c2_symbol (c := c) (a := a) hC (Q := fun v τ => ((r_symbolOf σ c < 0 ∨ a < -1 ∨ ¬ a ≤ 2) ∧ v = some (.inl 0) ∧ τ = σ) ∨ (∃ j, j < 8 ∧ r_symbolOf σ c = nI j ∧ arok a ∧ CP 0 u b Lc Tc none τ ∧ (∀ z, 49 ≤ z → τ z = σ z) ∧ τ 2 = upd (σ 2) j a ∧ v = some (.inl 1))) (fun q => Or.inl ⟨q, rfl, rfl⟩) (fun j hj q1 q2 τ q3 q4 q5 => Or.inr ⟨j, hj, q1, q2, q3, q4, q5, rfl⟩))
  have bad : ∀ {x : Int32}, arok x → ¬ (x < -1 ∨ ¬ x ≤ 2) := by
    intro x hx
    rcases hx with rfl | rfl | rfl | rfl <;> decide
  rcases e1 with ⟨q, e1, rfl⟩ | ⟨j, hj, q1, q2, q3, q4, q5, e1⟩
  · obtain ⟨v2, σ2, g2, e2⟩ := evm_of (m2_symbol (c := c) (a := a) hR (Q := fun v τ => v = some (.inl 0) ∧ IW τ) (fun _ => ⟨rfl, m, u, b, Lc, Tc, o, hC, hR, hE, h4⟩) (fun j hj p1 p2 τ _ _ _ _ => absurd q (fun q => q.elim (fun q => absurd (by rw [← p1]; exact q) (nI_pos (n := j) (by omega))) (bad p2))))
    rw [e1] at g1
    rw [e2.1] at g2
    exact ⟨0, 0, _, σ2, g1, g2, rfl, e2.2⟩
  · have hR1 := hR.of (fun z hz => q4 z (by omega))
    obtain ⟨v2, σ2, g2, e2⟩ := evm_of (m2_symbol (c := c) (a := a) hR1 (Q := fun v τ => v = some (.inl 1) ∧ IW τ) (fun q => absurd q (fun q => q.elim (fun q => absurd (by rw [← q1]; exact q) (nI_pos (n := j) (by omega))) (bad q2))) (fun i hi p1 p2 τ p3 p4 p5 p6 => ⟨rfl, 0, u, b, Lc, Tc, none, q3.of p4, p3, by
      have e : i = j := (nI_eq (by omega) (by omega)).mp (p1.symm.trans q1)
      rw [p5, p4 2 (by decide), q5, q4 51 (by decide), hE, e], by rw [p4 49 (by decide), p6, q4 49 (by decide), q4 60 (by decide)]; exact h4⟩))
    rw [e1] at g1
    rw [e2.1] at g2
    exact ⟨1, 1, _, σ2, g1, g2, rfl, e2.2⟩
theorem w_type {σ : ab_M} (h : IW σ) (w : Int64) (n : Int32) : ∃ (v1 v2 : Int32) (σ1 σ2 : ab_M), ev0 mX7_type [.inr (.inr 0), .inr (.inl w), .inl n] σ (some (.inl v1)) σ1 ∧ ev0 mX8_type [.inr (.inr 50), .inr (.inl w), .inl n] σ1 (some (.inl v2)) σ2 ∧ v1 = v2 ∧ IW σ2 := by
  obtain ⟨m, u, b, Lc, Tc, o, hC, hR, hE, h4⟩ := h
  obtain ⟨v, σ1, g1, e1, f1, f2, hh⟩ := evm_of (c2_type w n hC (Q := fun v τ => v = some (.inl (tyR w n u)) ∧ (∀ z, 49 ≤ z → τ z = σ z) ∧ τ 2 = σ 2 ∧ ((∀ ap ρ, tyM w n u ap ρ = ρ) ∧ CP m u b Lc Tc o τ ∨ ∃ j, u + j ≤ 60 ∧ (∀ ap ρ, tyM w n u ap ρ = ap j ρ) ∧ CP m (u + j) (tyB w u j b) Lc Tc o τ)) (fun τ q1 q2 q3 => ⟨rfl, q1, q2, q3⟩))
  obtain ⟨v2, σ2, g2, e2, p1, p2, p6, p3, p4⟩ := evm_of (m2_type w n (hR.of (fun z hz => f1 z (by omega))) (Q := fun v τ => v = some (.inl (tyR w n u)) ∧ (∀ z, z < 50 → τ z = σ1 z) ∧ τ 51 = σ1 51 ∧ τ 60 = σ1 60 ∧ ((∀ ap ρ, tyM w n u ap ρ = ρ) → RP m u b Lc Tc o τ) ∧ (∀ j, u + j ≤ 60 → (∀ ap ρ, tyM w n u ap ρ = ap j ρ) → RP m (u + j) (tyB w u j b) Lc Tc o τ)) (fun τ q1 q2 q6 q3 q4 => ⟨rfl, q1, q2, q6, q3, q4⟩))
  rw [e1] at g1
  rw [e2] at g2
  have hE2 : σ2 51 = σ2 2 := by rw [p2, p1 2 (by decide), f1 51 (by decide), f2, hE]
  have h42 : ∀ v, v < 3 → σ2 49 v = σ2 60 v := by rw [p1 49 (by decide), p6, f1 49 (by decide), f1 60 (by decide)]; exact h4
  refine ⟨_, _, σ1, σ2, g1, g2, rfl, ?_⟩
  rcases hh with ⟨q, hc⟩ | ⟨j, hj, q, hc⟩
  · exact ⟨m, u, b, Lc, Tc, o, hc.of p1, p3 q, hE2, h42⟩
  · exact ⟨m, u + j, _, Lc, Tc, o, hc.of p1, p4 j hj q, hE2, h42⟩
theorem w_clause {σ : ab_M} (h : IW σ) : ∃ (v1 v2 : Int32) (σ1 σ2 : ab_M), ev0 mX7_clause [.inr (.inr 0)] σ (some (.inl v1)) σ1 ∧ ev0 mX8_clause [.inr (.inr 50)] σ1 (some (.inl v2)) σ2 ∧ v1 = v2 ∧ IW σ2 := by
  obtain ⟨m, u, b, Lc, Tc, o, hC, hR, hE, h4⟩ := h
  obtain ⟨v, σ1, g1, e1, q1, f1, f2⟩ := evm_of (c2_clause hC (Q := fun v τ => v = some (.inl (clR m (aur (σ 2) b u 0 (-2)))) ∧ CP (clM m (aur (σ 2) b u 0 (-2))) 0 b (clL m u Lc (aur (σ 2) b u 0 (-2))) (clT m b Tc (aur (σ 2) b u 0 (-2))) (clO m o (aur (σ 2) b u 0 (-2))) τ ∧ (∀ z, 49 ≤ z → τ z = σ z) ∧ τ 2 = σ 2) (fun τ a1 a2 a3 => ⟨rfl, a1, a2, a3⟩))
  have e51 : σ1 51 = σ 2 := by rw [f1 51 (by decide), hE]
  obtain ⟨v2, σ2, g2, e2, p1, p2, p3, p6⟩ := evm_of (m2_clause (hR.of (fun z hz => f1 z (by omega))) (Q := fun v τ => v = some (.inl (clR m (aur (σ1 51) b u 0 (-2)))) ∧ RP (clM m (aur (σ1 51) b u 0 (-2))) 0 b (clL m u Lc (aur (σ1 51) b u 0 (-2))) (clT m b Tc (aur (σ1 51) b u 0 (-2))) (clO m o (aur (σ1 51) b u 0 (-2))) τ ∧ (∀ z, z < 50 → τ z = σ1 z) ∧ τ 51 = σ1 51 ∧ τ 60 = σ1 60) (fun τ a1 a2 a3 a4 => ⟨rfl, a1, a2, a3, a4⟩))
  rw [e51] at e2 p1
  rw [e1] at g1
  rw [e2] at g2
  exact ⟨_, _, σ1, σ2, g1, g2, rfl, _, 0, b, _, _, _, q1.of p2, p1, by rw [p3, p2 2 (by decide), e51, f2], by rw [p2 49 (by decide), p6, f1 49 (by decide), f1 60 (by decide)]; exact h4⟩
theorem w_drop {σ : ab_M} (h : IW σ) : ∃ (v1 v2 : Int32) (σ1 σ2 : ab_M), ev0 mX7_drop [.inr (.inr 0)] σ (some (.inl v1)) σ1 ∧ ev0 mX8_drop [.inr (.inr 50)] σ1 (some (.inl v2)) σ2 ∧ v1 = v2 ∧ IW σ2 := by
  obtain ⟨m, u, b, Lc, Tc, o, hC, hR, hE, h4⟩ := h
  obtain ⟨v, σ1, g1, e1, q1, f1, f2⟩ := evm_of (c2_drop hC (Q := fun v τ => v = some (.inl (if m = 0 then -2 else nI (m - 1))) ∧ CP (m - 1) u b Lc Tc (drO m o) τ ∧ (∀ z, 49 ≤ z → τ z = σ z) ∧ τ 2 = σ 2) (fun τ a1 a2 a3 => ⟨rfl, a1, a2, a3⟩))
  obtain ⟨v2, σ2, g2, e2, p1, p2, p3, p6⟩ := evm_of (m2_drop (hR.of (fun z hz => f1 z (by omega))) (Q := fun v τ => v = some (.inl (if m = 0 then -2 else nI (m - 1))) ∧ RP (m - 1) u b Lc Tc (drO m o) τ ∧ (∀ z, z < 50 → τ z = σ1 z) ∧ τ 51 = σ1 51 ∧ τ 60 = σ1 60) (fun τ a1 a2 a3 a4 => ⟨rfl, a1, a2, a3, a4⟩))
  rw [e1] at g1
  rw [e2] at g2
  exact ⟨_, _, σ1, σ2, g1, g2, rfl, _, u, b, Lc, Tc, _, q1.of p2, p1, by rw [p3, p2 2 (by decide), f1 51 (by decide), f2, hE], by rw [p2 49 (by decide), p6, f1 49 (by decide), f1 60 (by decide)]; exact h4⟩
theorem w_check {σ : ab_M} (h : IW σ) : ∃ (v1 v2 : Int32) (σ1 σ2 : ab_M), ev0 mX7_check [.inr (.inr 0)] σ (some (.inl v1)) σ1 ∧ ev0 mX8_check [.inr (.inr 50)] σ1 (some (.inl v2)) σ2 ∧ v1 = v2 ∧ IW σ2 := by
  obtain ⟨m, u, b, Lc, Tc, o, hC, hR, hE, h4⟩ := h
  obtain ⟨v, σ1, g1, e1, q1, f1, f2⟩ := evm_of (c2_check hC (Q := fun v τ => ckO (σ 2) b u o v (σ 49) (τ 49) ∧ CP m 0 b Lc Tc o τ ∧ (∀ z, 50 ≤ z → τ z = σ z) ∧ τ 2 = σ 2) (fun v τ a0 a1 a2 a3 => ⟨a0, a1, a2, a3⟩))
  have e51 : σ1 51 = σ 2 := by rw [f1 51 (by decide), hE]
  obtain ⟨v2, σ2, g2, e2, p1, p2, p3⟩ := evm_of (m2_check (hR.of f1) (Q := fun v τ => ckO (σ1 51) b u o v (σ1 60) (τ 60) ∧ RP m 0 b Lc Tc o τ ∧ (∀ z, z < 50 → τ z = σ1 z) ∧ τ 51 = σ1 51) (fun v τ a0 a1 a2 a3 => ⟨a0, a1, a2, a3⟩))
  rw [e51, f1 60 (by decide)] at e2
  obtain ⟨⟨r, x1, x2⟩, x3⟩ := ckO_eq e1 e2 h4
  rw [x1] at g1
  rw [x2] at g2
  exact ⟨r, r, σ1, σ2, g1, g2, rfl, m, 0, b, Lc, Tc, o, q1.of p2, p1, by rw [p3, p2 2 (by decide), e51, f2], by rw [p2 49 (by decide)]; exact x3⟩
theorem w_two {σ : ab_M} (h : IW σ) {M N : ab_Me} {as bs : List ab_V} {r : Int32} (h1 : evm M as σ (fun v τ => v = some (.inl r) ∧ τ = σ)) (h2 : evm N bs σ (fun v τ => v = some (.inl r) ∧ τ = σ)) : ∃ (v1 v2 : Int32) (σ1 σ2 : ab_M), ev0 M as σ (some (.inl v1)) σ1 ∧ ev0 N bs σ1 (some (.inl v2)) σ2 ∧ v1 = v2 ∧ IW σ2 := by
  obtain ⟨v, σ1, g1, e1, rfl⟩ := evm_of h1
  obtain ⟨v2, σ2, g2, e2, rfl⟩ := evm_of h2
  rw [e1] at g1
  rw [e2] at g2
  exact ⟨r, r, _, _, g1, g2, rfl, h⟩
theorem w_clauses {σ : ab_M} (h : IW σ) : ∃ (v1 v2 : Int32) (σ1 σ2 : ab_M), ev0 mX7_clauses [.inr (.inr 0)] σ (some (.inl v1)) σ1 ∧ ev0 mX8_clauses [.inr (.inr 50)] σ1 (some (.inl v2)) σ2 ∧ v1 = v2 ∧ IW σ2 := by
  obtain ⟨m, u, b, Lc, Tc, o, hC, hR, hE, h4⟩ := id h
  exact w_two h (r := nI m) (s_X7_clauses_0 (s_X2_count_0 ⟨_, rfl, by rw [hC.2.1.2.1], rfl⟩)) (s_X8_clauses_0 ⟨by rw [hR.2.1.2.1], rfl⟩)
theorem w_size {σ : ab_M} (h : IW σ) : ∃ (v1 v2 : Int32) (σ1 σ2 : ab_M), ev0 mX7_size [.inr (.inr 0)] σ (some (.inl v1)) σ1 ∧ ev0 mX8_size [.inr (.inr 50)] σ1 (some (.inl v2)) σ2 ∧ v1 = v2 ∧ IW σ2 := by
  obtain ⟨m, u, b, Lc, Tc, o, hC, hR, hE, h4⟩ := id h
  have c5 := hC.2.2.2.2
  have r4 := hR.2.2.2
  refine w_two h (r := σ 0 8) (s_X7_size_0 ⟨rfl, rfl⟩) ?_
  cases o with
  | none =>
    have c8 : σ 0 8 = 0 := c5
    exact s_X8_size_0 ⟨fun _ => ⟨by rw [c8], rfl⟩, fun q => absurd r4 q⟩
  | some q =>
    obtain ⟨n, fr, V⟩ := q
    have c8 : σ 0 8 = nI n := c5.2.2.1
    have r12 : σ 50 12 = 1 := r4.2.2.1
    have r7 : σ 50 7 = nI n := r4.2.2.2.1
    exact s_X8_size_0 ⟨fun q => absurd (r12.symm.trans q) (by decide), fun _ => ⟨by rw [c8, r7], rfl⟩⟩
theorem w_value {σ : ab_M} (h : IW σ) (x y z : Int32) : ∃ (v1 v2 : Int32) (σ1 σ2 : ab_M), ev0 mX7_value [.inr (.inr 0), .inl x, .inl y, .inl z] σ (some (.inl v1)) σ1 ∧ ev0 mX8_value [.inr (.inr 50), .inl x, .inl y, .inl z] σ1 (some (.inl v2)) σ2 ∧ v1 = v2 ∧ IW σ2 := by
  obtain ⟨m, u, b, Lc, Tc, o, hC, hR, hE, h4⟩ := id h
  exact w_two h (r := vaR (σ 2) o (r_symbolOf σ x) y z) (c2_value hC ⟨rfl, rfl⟩) (m2_value hR ⟨by rw [hE], rfl⟩)
theorem w_caseOf {σ : ab_M} (h : IW σ) (x : Int32) : ∃ (v1 v2 : Int32) (σ1 σ2 : ab_M), ev0 mX7_caseOf [.inr (.inr 0), .inl x] σ (some (.inl v1)) σ1 ∧ ev0 mX8_caseOf [.inr (.inr 50), .inl x] σ1 (some (.inl v2)) σ2 ∧ v1 = v2 ∧ IW σ2 := by
  obtain ⟨m, u, b, Lc, Tc, o, hC, hR, hE, h4⟩ := id h
  have l3 : ∀ {p : Prop}, ¬ x < 0 → x < 3 → 2 < x → p := by
    intro p h1 h2 h3
    rw [Int32.lt_iff_toInt_lt, li_3] at h2
    rw [Int32.lt_iff_toInt_lt, li_2] at h3
    omega
  have l4 : ∀ {p : Prop}, ¬ x < 3 → ¬ 2 < x → p := by
    intro p h2 h3
    rw [Int32.lt_iff_toInt_lt, li_3] at h2
    rw [Int32.lt_iff_toInt_lt, li_2] at h3
    omega
  refine w_two h (r := if x < 0 then -1 else if x < 3 then σ 49 x.toNatClampNeg else -1) (s_X7_caseOf_0 ⟨fun h1 => ⟨by rw [if_pos h1], rfl⟩, fun h1 => ⟨fun h2 => ⟨in3 h1 (Or.inl h2), by rw [if_neg h1, if_pos h2], rfl⟩, fun h2 => ⟨by rw [if_neg h1, if_neg h2], rfl⟩⟩⟩) (s_X8_caseOf_0 ⟨fun h1 => ⟨by rw [if_pos h1], rfl⟩, fun h1 => ⟨fun h2 => ?_, fun h2 => ⟨in3 h1 (Or.inr h2), ?_, rfl⟩⟩⟩)
  · by_cases h3 : x < 3
    · exact l3 h1 h3 h2
    · exact ⟨by rw [if_neg h1, if_neg h3], rfl⟩
  · by_cases h3 : x < 3
    · obtain ⟨a, ha, rfl⟩ := nI_of h1
      have a3 : a < 3 := (nI_ltI (b := 3) ha (by omega)).mp h3
      rw [if_neg h1, if_pos h3, nI_clamp ha, h4 a a3]
    · exact l4 h3 h2
theorem w_tries {σ : ab_M} (h : IW σ) : ∃ (v1 v2 : Int32) (σ1 σ2 : ab_M), ev0 mX7_tries [.inr (.inr 0)] σ (some (.inl v1)) σ1 ∧ ev0 mX8_tries [.inr (.inr 50)] σ1 (some (.inl v2)) σ2 ∧ IW σ2 := by
  obtain ⟨v, σ1, g1, e1, rfl⟩ := evm_of (M := mX7_tries) (as := [.inr (.inr 0)]) (s_X7_tries_0 (Q := fun v τ => v = some (.inl (σ 45 6)) ∧ τ = σ) (s_X4_made_0 ⟨_, rfl, rfl, rfl⟩))
  obtain ⟨v2, σ2, g2, e2, rfl⟩ := evm_of (M := mX8_tries) (as := [.inr (.inr 50)]) (s_X8_tries_0 (σ := σ1) (Q := fun v τ => v = some (.inl (σ1 50 14)) ∧ τ = σ1) ⟨rfl, rfl⟩)
  rw [e1] at g1
  rw [e2] at g2
  exact ⟨_, _, _, _, g1, g2, h⟩
theorem IW_0 : IW si_m := ⟨0, 0, fun _ => 0, fun _ => 0, fun _ _ => 0, none, ⟨fun j _ => Or.inl rfl, ⟨by omega, rfl, fun i hi => by omega⟩, ⟨by omega, rfl, fun t ht => by omega⟩, fun I _ => ⟨1, 0, by omega, by omega, rfl, rfl⟩, rfl⟩, ⟨fun j _ => Or.inl rfl, ⟨by omega, rfl, fun i hi => by omega⟩, ⟨by omega, rfl, fun t ht => by omega⟩, rfl⟩, rfl, fun _ _ => rfl⟩

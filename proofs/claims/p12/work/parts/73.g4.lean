section VA
variable {σ : ab_M} {Q : Option ab_V → ab_M → Prop} {m u : Nat} {b : Nat → Nat}
theorem vin2 {j n : Nat} {x y : Int32} (hj : j < 8) (hn : n ≤ 4) (h1 : ¬ x < 0) (h2 : ¬ nI n ≤ x) (h3 : ¬ y < 0) (h4 : y < nI n) : ab_in (16 * nI j + 4 * x + y) 128 = true := by
  obtain ⟨a, ha, rfl⟩ := nI_of h1
  obtain ⟨c, hc, rfl⟩ := nI_of h3
  have a4 : a < 4 := by
    rcases Nat.lt_or_ge a n with g | g
    · omega
    · exact absurd (nI_le g ha) h2
  have c4 : c < n := (nI_ltI hc (by omega)).mp h4
  have e : 16 * nI j + 4 * nI a + nI c = nI (16 * j + 4 * a + c) := by
    show nI 16 * nI j + nI 4 * nI a + nI c = _
    rw [pk_mul, pk_mul, nI_add, nI_add]
  rw [e]
  exact inN (by omega) (by decide)
theorem vin1 {j n : Nat} {x : Int32} (hj : j < 8) (hn : n ≤ 4) (h1 : ¬ x < 0) (h2 : ¬ nI n ≤ x) : ab_in (16 * nI j + 4 * x + 0) 128 = true := by
  obtain ⟨a, ha, rfl⟩ := nI_of h1
  have a4 : a < 4 := by
    rcases Nat.lt_or_ge a n with g | g
    · omega
    · exact absurd (nI_le g ha) h2
  have e : 16 * nI j + 4 * nI a + 0 = nI (16 * j + 4 * a + 0) := by
    show nI 16 * nI j + nI 4 * nI a + nI 0 = _
    rw [pk_mul, pk_mul, nI_add, nI_add]
  rw [e]
  exact inN (by omega) (by decide)
theorem vin0 {j : Nat} (hj : j < 8) : ab_in (16 * nI j + 0 + 0) 128 = true := by
  have e : 16 * nI j + 0 + 0 = nI (16 * j + 0 + 0) := by
    show nI 16 * nI j + nI 0 + nI 0 = _
    rw [pk_mul, nI_add, nI_add]
  rw [e]
  exact inN (by omega) (by decide)
theorem m_value {x y z : Int32} (h : RI m u b σ) (k : ∀ r : Int32, Q (some (.inl r)) σ) : evm mX8_value [.inr (.inr 50), .inl x, .inl y, .inl z] σ Q := by
  obtain ⟨hA, hC, hB, n, c, t, ⟨⟨h7, n4⟩, _⟩, _⟩ := h
  refine s_X8_value_0 (x_symbolOf σ x ⟨_, rfl, fun _ => k _, fun _ => ⟨fun _ => k _, fun h1 => ?_⟩⟩)
  rcases sy_rel σ σ x with ⟨q1, _⟩ | ⟨j, hj, e1, _⟩
  · exact absurd q1 h1
  · rw [e1, h7, nI_clamp (by omega)]
    have i8 := in8 hj
    have v0 := vin0 hj
    have v1 : ¬ y < 0 → ¬ nI n ≤ y → ab_in (16 * nI j + 4 * y + 0) 128 = true := vin1 hj n4
    have v2 : ¬ y < 0 → ¬ nI n ≤ y → ¬ z < 0 → z < nI n → ab_in (16 * nI j + 4 * y + z) 128 = true := vin2 hj n4
    generalize nI j = J at i8 v0 v1 v2 ⊢
    rcases hA j hj with e | e | e | e
    · rw [e]
      exact ⟨i8, fun q => absurd q (by decide), fun _ => k _⟩
    · rw [e]
      refine ⟨i8, fun _ => ⟨i8, fun _ => ⟨i8, fun _ => ⟨i8, fun _ => ⟨i8, fun _ => ⟨v0, k _⟩, fun q => absurd (by decide) q⟩, fun q => absurd (by decide) q⟩, fun q => absurd (by decide) q⟩, fun q => absurd (by decide) q⟩, fun q => absurd (by decide) q⟩
    · rw [e]
      refine ⟨i8, fun _ => ⟨i8, fun q => absurd q (by decide), fun _ => ⟨fun _ => k _, fun a1 => ⟨fun _ => k _, fun a2 => ⟨i8, fun _ => ⟨i8, fun q => absurd q (by decide), fun _ => ⟨i8, fun _ => ⟨v1 a1 a2, k _⟩, fun q => absurd (by decide) q⟩⟩, fun q => absurd (by decide) q⟩⟩⟩⟩, fun q => absurd (by decide) q⟩
    · rw [e]
      refine ⟨i8, fun _ => ⟨i8, fun q => absurd q (by decide), fun _ => ⟨fun _ => k _, fun a1 => ⟨fun _ => k _, fun a2 => ⟨i8, fun q => absurd q (by decide), fun _ => ⟨fun _ => k _, fun a3 => ⟨fun a4 => ⟨i8, fun q => absurd q (by decide), fun _ => ⟨i8, fun q => absurd q (by decide), fun _ => ⟨v2 a1 a2 a3 a4, k _⟩⟩⟩, fun _ => k _⟩⟩⟩⟩⟩⟩, fun q => absurd (by decide) q⟩
theorem in3 {x : Int32} (h1 : ¬ x < 0) (h2 : x < 3 ∨ ¬ 2 < x) : ab_in x 3 = true := by
  rw [Int32.lt_iff_toInt_lt, li_0] at h1
  refine ab_in_of (by omega) ?_
  rcases h2 with h2 | h2
  · rw [Int32.lt_iff_toInt_lt, li_3] at h2
    omega
  · rw [Int32.lt_iff_toInt_lt, li_2] at h2
    omega
end VA
/-! each call on both sides -/
theorem t_symbol {σ : ab_M} (h : IV σ) (c a : Int32) : ∃ (v1 v2 : Int32) (σ1 σ2 : ab_M), ev0 mX7_symbol [.inr (.inr 0), .inl c, .inl a] σ (some (.inl v1)) σ1 ∧ ev0 mX8_symbol [.inr (.inr 50), .inl c, .inl a] σ1 (some (.inl v2)) σ2 ∧ v1 = v2 ∧ IV σ2 := by
  obtain ⟨m, u, b, hC, hR, hE⟩ := h
  obtain ⟨v, σ1, g1, e1⟩ := evm_of (c_symbol (c := c) (a := a) hC (Q := fun v τ => ((r_symbolOf σ c < 0 ∨ a < -1 ∨ ¬ a ≤ 2) ∧ v = some (.inl 0) ∧ τ = σ) ∨ (∃ j, j < 8 ∧ r_symbolOf σ c = nI j ∧ arok a ∧ CV 0 u b τ ∧ (∀ z, 50 ≤ z → τ z = σ z) ∧ τ 2 = upd (σ 2) j a ∧ v = some (.inl 1))) (fun q => Or.inl ⟨q, rfl, rfl⟩) (fun j hj q1 q2 τ q3 q4 q5 => Or.inr ⟨j, hj, q1, q2, q3, q4, q5, rfl⟩))
  have bad : ∀ {x : Int32}, arok x → ¬ (x < -1 ∨ ¬ x ≤ 2) := by
    intro x hx
    rcases hx with rfl | rfl | rfl | rfl <;> decide
  rcases e1 with ⟨q, e1, rfl⟩ | ⟨j, hj, q1, q2, q3, q4, q5, e1⟩
  · obtain ⟨v2, σ2, g2, e2⟩ := evm_of (m_symbol2 (c := c) (a := a) hR (Q := fun v τ => v = some (.inl 0) ∧ IV τ) (fun _ => ⟨rfl, m, u, b, hC, hR, hE⟩) (fun j hj p1 p2 τ _ _ _ => absurd q (fun q => q.elim (fun q => absurd (by rw [← p1]; exact q) (nI_pos (n := j) (by omega))) (bad p2))))
    rw [e1] at g1
    rw [e2.1] at g2
    exact ⟨0, 0, _, σ2, g1, g2, rfl, e2.2⟩
  · have hR1 := hR.of q4
    obtain ⟨v2, σ2, g2, e2⟩ := evm_of (m_symbol2 (c := c) (a := a) hR1 (Q := fun v τ => v = some (.inl 1) ∧ IV τ) (fun q => absurd q (fun q => q.elim (fun q => absurd (by rw [← q1]; exact q) (nI_pos (n := j) (by omega))) (bad q2))) (fun i hi p1 p2 τ p3 p4 p5 => ⟨rfl, 0, u, b, q3.of p4, p3, by
      have e : i = j := (nI_eq (by omega) (by omega)).mp (p1.symm.trans q1)
      rw [p5, p4 2 (by decide), q5, q4 51 (by decide), hE, e]⟩))
    rw [e1] at g1
    rw [e2.1] at g2
    exact ⟨1, 1, _, σ2, g1, g2, rfl, e2.2⟩
theorem t_type {σ : ab_M} (h : IV σ) (w : Int64) (n : Int32) : ∃ (v1 v2 : Int32) (σ1 σ2 : ab_M), ev0 mX7_type [.inr (.inr 0), .inr (.inl w), .inl n] σ (some (.inl v1)) σ1 ∧ ev0 mX8_type [.inr (.inr 50), .inr (.inl w), .inl n] σ1 (some (.inl v2)) σ2 ∧ v1 = v2 ∧ IV σ2 := by
  obtain ⟨m, u, b, hC, hR, hE⟩ := h
  obtain ⟨v, σ1, g1, e1, f1, f2, hh⟩ := evm_of (c_type w n hC (Q := fun v τ => v = some (.inl (tyR w n u)) ∧ (∀ z, 50 ≤ z → τ z = σ z) ∧ τ 2 = σ 2 ∧ ((∀ ap ρ, tyM w n u ap ρ = ρ) ∧ CV m u b τ ∨ ∃ j, u + j ≤ 60 ∧ (∀ ap ρ, tyM w n u ap ρ = ap j ρ) ∧ CV m (u + j) (tyB w u j b) τ)) (fun τ q1 q2 q3 => ⟨rfl, q1, q2, q3⟩))
  obtain ⟨v2, σ2, g2, e2, p1, p2, p3, p4⟩ := evm_of (m_type w n (hR.of f1) (Q := fun v τ => v = some (.inl (tyR w n u)) ∧ (∀ z, z < 50 → τ z = σ1 z) ∧ τ 51 = σ1 51 ∧ ((∀ ap ρ, tyM w n u ap ρ = ρ) → RI m u b τ) ∧ (∀ j, u + j ≤ 60 → (∀ ap ρ, tyM w n u ap ρ = ap j ρ) → RI m (u + j) (tyB w u j b) τ)) (fun τ q1 q2 q3 q4 => ⟨rfl, q1, q2, q3, q4⟩))
  rw [e1] at g1
  rw [e2] at g2
  have hE2 : σ2 51 = σ2 2 := by rw [p2, p1 2 (by decide), f1 51 (by decide), f2, hE]
  refine ⟨_, _, σ1, σ2, g1, g2, rfl, ?_⟩
  rcases hh with ⟨q, hc⟩ | ⟨j, hj, q, hc⟩
  · exact ⟨m, u, b, hc.of p1, p3 q, hE2⟩
  · exact ⟨m, u + j, _, hc.of p1, p4 j hj q, hE2⟩
theorem t_clause {σ : ab_M} (h : IV σ) : ∃ (v1 v2 : Int32) (σ1 σ2 : ab_M), ev0 mX7_clause [.inr (.inr 0)] σ (some (.inl v1)) σ1 ∧ ev0 mX8_clause [.inr (.inr 50)] σ1 (some (.inl v2)) σ2 ∧ v1 = v2 ∧ IV σ2 := by
  obtain ⟨m, u, b, hC, hR, hE⟩ := h
  obtain ⟨v, σ1, g1, e1, q1, f1, f2⟩ := evm_of (c_clause hC (Q := fun v τ => v = some (.inl (clR m (aur (σ 2) b u 0 (-2)))) ∧ CV (clM m (aur (σ 2) b u 0 (-2))) 0 b τ ∧ (∀ z, 50 ≤ z → τ z = σ z) ∧ τ 2 = σ 2) (fun τ a1 a2 a3 => ⟨rfl, a1, a2, a3⟩))
  have e51 : σ1 51 = σ 2 := by rw [f1 51 (by decide), hE]
  obtain ⟨v2, σ2, g2, e2, p1, p2, p3⟩ := evm_of (m_clause (hR.of f1) (Q := fun v τ => v = some (.inl (clR m (aur (σ1 51) b u 0 (-2)))) ∧ RI (clM m (aur (σ1 51) b u 0 (-2))) 0 b τ ∧ (∀ z, z < 50 → τ z = σ1 z) ∧ τ 51 = σ1 51) (fun τ a1 a2 a3 => ⟨rfl, a1, a2, a3⟩))
  rw [e51] at e2 p1
  rw [e1] at g1
  rw [e2] at g2
  exact ⟨_, _, σ1, σ2, g1, g2, rfl, _, 0, b, q1.of p2, p1, by rw [p3, p2 2 (by decide), e51, f2]⟩
theorem t_drop {σ : ab_M} (h : IV σ) : ∃ (v1 v2 : Int32) (σ1 σ2 : ab_M), ev0 mX7_drop [.inr (.inr 0)] σ (some (.inl v1)) σ1 ∧ ev0 mX8_drop [.inr (.inr 50)] σ1 (some (.inl v2)) σ2 ∧ v1 = v2 ∧ IV σ2 := by
  obtain ⟨m, u, b, hC, hR, hE⟩ := h
  obtain ⟨v, σ1, g1, e1, q1, f1, f2⟩ := evm_of (c_drop hC (Q := fun v τ => v = some (.inl (if m = 0 then -2 else nI (m - 1))) ∧ CV (m - 1) u b τ ∧ (∀ z, 50 ≤ z → τ z = σ z) ∧ τ 2 = σ 2) (fun τ a1 a2 a3 => ⟨rfl, a1, a2, a3⟩))
  obtain ⟨v2, σ2, g2, e2, p1, p2, p3⟩ := evm_of (m_drop (hR.of f1) (Q := fun v τ => v = some (.inl (if m = 0 then -2 else nI (m - 1))) ∧ RI (m - 1) u b τ ∧ (∀ z, z < 50 → τ z = σ1 z) ∧ τ 51 = σ1 51) (fun τ a1 a2 a3 => ⟨rfl, a1, a2, a3⟩))
  rw [e1] at g1
  rw [e2] at g2
  exact ⟨_, _, σ1, σ2, g1, g2, rfl, _, u, b, q1.of p2, p1, by rw [p3, p2 2 (by decide), f1 51 (by decide), f2, hE]⟩
theorem t_clauses {σ : ab_M} (h : IV σ) : ∃ (v1 v2 : Int32) (σ1 σ2 : ab_M), ev0 mX7_clauses [.inr (.inr 0)] σ (some (.inl v1)) σ1 ∧ ev0 mX8_clauses [.inr (.inr 50)] σ1 (some (.inl v2)) σ2 ∧ v1 = v2 ∧ IV σ2 := by
  obtain ⟨m, u, b, hC, hR, hE⟩ := id h
  obtain ⟨v, σ1, g1, e1, rfl⟩ := evm_of (M := mX7_clauses) (as := [.inr (.inr 0)]) (s_X7_clauses_0 (Q := fun v τ => v = some (.inl (σ 5 1)) ∧ τ = σ) (s_X2_count_0 ⟨_, rfl, rfl, rfl⟩))
  obtain ⟨v2, σ2, g2, e2, rfl⟩ := evm_of (M := mX8_clauses) (as := [.inr (.inr 50)]) (s_X8_clauses_0 (σ := σ1) (Q := fun v τ => v = some (.inl (σ1 50 5)) ∧ τ = σ1) ⟨rfl, rfl⟩)
  rw [e1] at g1
  rw [e2] at g2
  exact ⟨_, _, _, _, g1, g2, by rw [hC.2.1.2.1, hR.2.1.2.1], h⟩
theorem CV.fd {m u : Nat} {b : Nat → Nat} {σ τ : ab_M} (h : CV m u b σ) (f : fD σ τ) (hD : DI τ) : CV m u b τ := by
  have m8 := h.2.1.1
  exact h.mv (f.1 2 (by omega) (by omega)) (f.1 3 (by omega) (by omega)) (f.1 4 (by omega) (by omega)) (f.1 5 (by omega) (by omega)) (fun i hi => f.1 _ (by omega) (by omega)) hD
theorem RI.fv {m u : Nat} {b : Nat → Nat} {σ τ : ab_M} (h : RI m u b σ) (f : fV σ τ) (hF : FI τ) : RI m u b τ := by
  obtain ⟨a, c, e, _⟩ := h
  refine ⟨a.mw f, c.mw f, ?_, hF⟩
  exact ⟨e.1, by rw [f.2 2 (by decide)]; exact e.2.1, fun t ht => by rw [f.1 52 (by decide) (by decide) (by decide) (by decide) (by decide) (by decide) (by decide)]; exact e.2.2 t ht⟩
theorem fV.lo {σ τ : ab_M} (f : fV σ τ) {z : Nat} (hz : z < 50 ∨ z = 51) : τ z = σ z := f.1 z (by omega) (by omega) (by omega) (by omega) (by omega) (by omega) (by omega)
theorem t_find {σ : ab_M} (h : IV σ) (a : Int32) : ∃ (v1 v2 : Int32) (σ1 σ2 : ab_M), ev0 mX7_find [.inr (.inr 0), .inl a] σ (some (.inl v1)) σ1 ∧ ev0 mX8_find [.inr (.inr 50), .inl a] σ1 (some (.inl v2)) σ2 ∧ IV σ2 := by
  obtain ⟨m, u, b, hC, hR, hE⟩ := h
  obtain ⟨v, σ1, g1, ⟨r1, e1⟩, q1, f1⟩ := evm_of (fd_s (x := a) hC.2.1 hC.2.2.2 (Q := fun v τ => (∃ r : Int32, v = some (.inl r)) ∧ DI τ ∧ fD σ τ) (fun r τ a1 a2 => ⟨⟨r, rfl⟩, a1, a2⟩))
  have hR1 := hR.of (fun z hz => f1.1 z (by omega) (by omega))
  obtain ⟨v2, σ2, g2, ⟨r2, e2⟩, p1, p2⟩ := evm_of (fd2 (x := a) hR1.1 hR1.2.1 hR1.2.2.2 (Q := fun v τ => (∃ r : Int32, v = some (.inl r)) ∧ FI τ ∧ fV σ1 τ) (fun r τ a1 a2 => ⟨⟨r, rfl⟩, a1, a2⟩))
  rw [e1] at g1
  rw [e2] at g2
  exact ⟨r1, r2, σ1, σ2, g1, g2, m, u, b, (hC.fd f1 q1).of (fun z hz => p2.lo (Or.inl hz)), hR1.fv p2 p1, by rw [p2.lo (by omega), p2.lo (by omega), f1.1 51 (by omega) (by omega), f1.1 2 (by omega) (by omega), hE]⟩
theorem t_more {σ : ab_M} (h : IV σ) : ∃ (v1 v2 : Int32) (σ1 σ2 : ab_M), ev0 mX7_more [.inr (.inr 0)] σ (some (.inl v1)) σ1 ∧ ev0 mX8_more [.inr (.inr 50)] σ1 (some (.inl v2)) σ2 ∧ IV σ2 := by
  obtain ⟨m, u, b, hC, hR, hE⟩ := h
  obtain ⟨v, σ1, g1, ⟨r1, e1⟩, q1, f1⟩ := evm_of (mo_s hC.2.1 hC.2.2.2 (Q := fun v τ => (∃ r : Int32, v = some (.inl r)) ∧ DI τ ∧ fD σ τ) (fun r τ a1 a2 => ⟨⟨r, rfl⟩, a1, a2⟩))
  have hR1 := hR.of (fun z hz => f1.1 z (by omega) (by omega))
  obtain ⟨v2, σ2, g2, ⟨r2, e2⟩, p1, p2⟩ := evm_of (mo2 hR1.1 hR1.2.1 hR1.2.2.2 (Q := fun v τ => (∃ r : Int32, v = some (.inl r)) ∧ FI τ ∧ fV σ1 τ) (fun r τ a1 a2 => ⟨⟨r, rfl⟩, a1, a2⟩))
  rw [e1] at g1
  rw [e2] at g2
  exact ⟨r1, r2, σ1, σ2, g1, g2, m, u, b, (hC.fd f1 q1).of (fun z hz => p2.lo (Or.inl hz)), hR1.fv p2 p1, by rw [p2.lo (by omega), p2.lo (by omega), f1.1 51 (by omega) (by omega), f1.1 2 (by omega) (by omega), hE]⟩
theorem t_check {σ : ab_M} (h : IV σ) : ∃ (v1 v2 : Int32) (σ1 σ2 : ab_M), ev0 mX7_check [.inr (.inr 0)] σ (some (.inl v1)) σ1 ∧ ev0 mX8_check [.inr (.inr 50)] σ1 (some (.inl v2)) σ2 ∧ IV σ2 := by
  obtain ⟨m, u, b, hC, hR, hE⟩ := h
  obtain ⟨v, σ1, g1, ⟨r1, e1⟩, q1, f1, f2⟩ := evm_of (c_check hC (Q := fun v τ => (∃ r : Int32, v = some (.inl r)) ∧ CV m 0 b τ ∧ (∀ z, 50 ≤ z → τ z = σ z) ∧ τ 2 = σ 2) (fun r τ a1 a2 a3 => ⟨⟨r, rfl⟩, a1, a2, a3⟩))
  obtain ⟨v2, σ2, g2, ⟨r2, e2⟩, p1, p2, p3⟩ := evm_of (m_check (hR.of f1) (Q := fun v τ => (∃ r : Int32, v = some (.inl r)) ∧ RI m 0 b τ ∧ (∀ z, z < 50 → τ z = σ1 z) ∧ τ 51 = σ1 51) (fun r τ a1 a2 a3 => ⟨⟨r, rfl⟩, a1, a2, a3⟩))
  rw [e1] at g1
  rw [e2] at g2
  exact ⟨r1, r2, σ1, σ2, g1, g2, m, 0, b, q1.of p2, p1, by rw [p3, p2 2 (by decide), f1 51 (by decide), f2, hE]⟩
theorem t_two {σ : ab_M} (h : IV σ) {M N : ab_Me} {as bs : List ab_V} (h1 : evm M as σ (fun v τ => (∃ r : Int32, v = some (.inl r)) ∧ τ = σ)) (h2 : evm N bs σ (fun v τ => (∃ r : Int32, v = some (.inl r)) ∧ τ = σ)) : ∃ (v1 v2 : Int32) (σ1 σ2 : ab_M), ev0 M as σ (some (.inl v1)) σ1 ∧ ev0 N bs σ1 (some (.inl v2)) σ2 ∧ IV σ2 := by
  obtain ⟨v, σ1, g1, ⟨r1, e1⟩, rfl⟩ := evm_of h1
  obtain ⟨v2, σ2, g2, ⟨r2, e2⟩, rfl⟩ := evm_of h2
  rw [e1] at g1
  rw [e2] at g2
  exact ⟨r1, r2, _, _, g1, g2, h⟩
theorem t_size {σ : ab_M} (h : IV σ) : ∃ (v1 v2 : Int32) (σ1 σ2 : ab_M), ev0 mX7_size [.inr (.inr 0)] σ (some (.inl v1)) σ1 ∧ ev0 mX8_size [.inr (.inr 50)] σ1 (some (.inl v2)) σ2 ∧ IV σ2 :=
  t_two h (s_X7_size_0 ⟨⟨_, rfl⟩, rfl⟩) (s_X8_size_0 ⟨fun _ => ⟨⟨_, rfl⟩, rfl⟩, fun _ => ⟨⟨_, rfl⟩, rfl⟩⟩)
theorem t_tries {σ : ab_M} (h : IV σ) : ∃ (v1 v2 : Int32) (σ1 σ2 : ab_M), ev0 mX7_tries [.inr (.inr 0)] σ (some (.inl v1)) σ1 ∧ ev0 mX8_tries [.inr (.inr 50)] σ1 (some (.inl v2)) σ2 ∧ IV σ2 :=
  t_two h (s_X7_tries_0 (s_X4_made_0 ⟨_, rfl, ⟨_, rfl⟩, rfl⟩)) (s_X8_tries_0 ⟨⟨_, rfl⟩, rfl⟩)
theorem t_value {σ : ab_M} (h : IV σ) (x y z : Int32) : ∃ (v1 v2 : Int32) (σ1 σ2 : ab_M), ev0 mX7_value [.inr (.inr 0), .inl x, .inl y, .inl z] σ (some (.inl v1)) σ1 ∧ ev0 mX8_value [.inr (.inr 50), .inl x, .inl y, .inl z] σ1 (some (.inl v2)) σ2 ∧ IV σ2 := by
  obtain ⟨m, u, b, hC, hR, hE⟩ := id h
  exact t_two h (vl_s (fun r => ⟨⟨_, rfl⟩, rfl⟩)) (m_value hR (fun r => ⟨⟨_, rfl⟩, rfl⟩))
theorem t_caseOf {σ : ab_M} (h : IV σ) (x : Int32) : ∃ (v1 v2 : Int32) (σ1 σ2 : ab_M), ev0 mX7_caseOf [.inr (.inr 0), .inl x] σ (some (.inl v1)) σ1 ∧ ev0 mX8_caseOf [.inr (.inr 50), .inl x] σ1 (some (.inl v2)) σ2 ∧ IV σ2 :=
  t_two h (s_X7_caseOf_0 ⟨fun _ => ⟨⟨_, rfl⟩, rfl⟩, fun h1 => ⟨fun h2 => ⟨in3 h1 (Or.inl h2), ⟨_, rfl⟩, rfl⟩, fun _ => ⟨⟨_, rfl⟩, rfl⟩⟩⟩) (s_X8_caseOf_0 ⟨fun _ => ⟨⟨_, rfl⟩, rfl⟩, fun h1 => ⟨fun _ => ⟨⟨_, rfl⟩, rfl⟩, fun h2 => ⟨in3 h1 (Or.inr h2), ⟨_, rfl⟩, rfl⟩⟩⟩)
theorem IV_0 : IV si_m := by
  refine ⟨0, 0, fun _ => 0, ⟨fun j _ => Or.inl rfl, ⟨by omega, rfl, fun i hi => by omega⟩, ⟨by omega, rfl, fun t ht => by omega⟩, ⟨0, by omega, rfl, 0, by omega, rfl, fun r hr => by omega⟩, 0, by omega, rfl⟩, ⟨fun j _ => Or.inl rfl, ⟨by omega, rfl, fun i hi => by omega⟩, ⟨by omega, rfl, fun t ht => by omega⟩, 0, 0, 0, ⟨⟨rfl, by omega⟩, ⟨rfl, by omega⟩, fun r hr => by omega, fun k hk => by show (0 : Int32).toInt ≤ 3; decide, rfl, by omega⟩, Or.inl rfl⟩, rfl⟩

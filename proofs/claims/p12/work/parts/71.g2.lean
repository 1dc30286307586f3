/-! both sides' states, and what each call does to them -/
def CV (m u : Nat) (b : Nat → Nat) (σ : ab_M) : Prop := (∀ j, j < 8 → arok (σ 2 j)) ∧ CI m σ ∧ Bf σ u b ∧ DI σ
def RI (m u : Nat) (b : Nat → Nat) (σ : ab_M) : Prop := AR σ ∧ CM m σ ∧ Bm σ u b ∧ FI σ
def IV (σ : ab_M) : Prop := ∃ m u b, CV m u b σ ∧ RI m u b σ ∧ σ 51 = σ 2
theorem FI.of {σ τ : ab_M} (h : FI σ) (h0 : τ 50 = σ 50) (h5 : τ 55 = σ 55) (h6 : τ 56 = σ 56) (h7 : τ 57 = σ 57) (h8 : τ 58 = σ 58) : FI τ := by
  obtain ⟨n, c, t, ⟨a, b, e, v, d⟩, x⟩ := h
  rw [← h0] at a b d x
  exact ⟨n, c, t, ⟨a, b, e.of h6 h7 h8, fun j hj => by rw [h5]; exact v j hj, d⟩, x⟩
theorem RI.of {m u : Nat} {b : Nat → Nat} {σ τ : ab_M} (h : RI m u b σ) (f : ∀ z, 50 ≤ z → τ z = σ z) : RI m u b τ := by
  obtain ⟨a, c, e, g⟩ := h
  refine ⟨fun j hj => by rw [f 51 (by decide)]; exact a j hj, ⟨c.1, by rw [f 50 (by decide)]; exact c.2.1, fun i hi => (c.2.2 i hi).of (f _ (by decide)) (f _ (by decide)) (f _ (by decide))⟩, ?_, g.of (f _ (by decide)) (f _ (by decide)) (f _ (by decide)) (f _ (by decide)) (f _ (by decide))⟩
  unfold Bm
  rw [f 50 (by decide), f 52 (by decide)]
  exact e
theorem CV.mv {m u : Nat} {b : Nat → Nat} {σ τ : ab_M} (h : CV m u b σ) (h2 : τ 2 = σ 2) (h3 : τ 3 = σ 3) (h4 : τ 4 = σ 4) (h5 : τ 5 = σ 5) (h7 : ∀ i, i < m → τ (7 + 3 * i) = σ (7 + 3 * i)) (hD : DI τ) : CV m u b τ := by
  obtain ⟨a, ⟨c1, c2, c3⟩, e, g⟩ := h
  refine ⟨by rw [h2]; exact a, ⟨c1, by rw [h5]; exact c2, fun i hi => by rw [h7 i hi]; exact c3 i hi⟩, ?_, hD⟩
  unfold Bf
  rw [h3, h4]
  exact e
theorem DI.of {σ τ : ab_M} (h : DI σ) (h0 : τ 0 8 = σ 0 8) (h1 : τ 37 = σ 37) (h2 : τ 39 = σ 39) : DI τ := by
  obtain ⟨⟨n, hn⟩, f, hf, ef⟩ := h
  exact ⟨⟨n, TI_of hn h1 h2⟩, f, hf, by rw [h0]; exact ef⟩
theorem CV.of {m u : Nat} {b : Nat → Nat} {σ τ : ab_M} (h : CV m u b σ) (f : ∀ z, z < 50 → τ z = σ z) : CV m u b τ := by
  have m8 := h.2.1.1
  exact h.mv (f _ (by decide)) (f _ (by decide)) (f _ (by decide)) (f _ (by decide)) (fun i hi => f _ (by omega)) (h.2.2.2.of (by rw [f 0 (by decide)]) (f _ (by decide)) (f _ (by decide)))
theorem aur_le (ar : Nat → Int32) (b : Nat → Nat) : ∀ (d p : Nat) (s : Int32) (r : Nat), aur ar b d p s = some r → r ≤ p + d := by
  intro d
  induction d with
  | zero =>
    intro p s r h
    unfold aur at h
    split at h
    · cases h
    · cases h
      omega
  | succ d ih =>
    intro p s r h
    unfold aur at h
    split at h
    · cases h
      omega
    · have := ih (p + 1) _ r h
      omega
def clR (m : Nat) (o : Option Nat) : Int32 := match o with
  | none => if m < 8 then nI (m + 1) else -3
  | some p => -100 - nI p
def clM (m : Nat) (o : Option Nat) : Nat := match o with
  | none => if m < 8 then m + 1 else m
  | some _ => m
section CL
variable {σ : ab_M} {Q : Option ab_V → ab_M → Prop} {m u : Nat} {b : Nat → Nat}
theorem c_clause (h : CV m u b σ) (k : ∀ τ, CV (clM m (aur (σ 2) b u 0 (-2))) 0 b τ → (∀ z, 50 ≤ z → τ z = σ z) → τ 2 = σ 2 → Q (some (.inl (clR m (aur (σ 2) b u 0 (-2))))) τ) : evm mX7_clause [.inr (.inr 0)] σ Q := by
  obtain ⟨hA, hC, hB, hD⟩ := id h
  have m8 := hC.1
  have hcl : Cl (7 + 3 * m) := ⟨m, by omega, rfl⟩
  refine s_X7_clause_0 (s_X2_free_0 ?_)
  rw [hC.2.1]
  refine at_s m8 ⟨_, rfl, ⟨_, rfl, ⟨_, (Cl_sh hcl).1⟩, ?_⟩⟩
  refine rd_ok hcl hB hA (fun τ f hk => ⟨_, rfl, s_X0_empty_0 ⟨rfl, ?_⟩⟩)
  have e1 : ∀ z, z ≠ 3 → (z < 7 + 3 * m ∨ 7 + 3 * m + 2 < z) → (ab_upd τ 3 1 0) z = σ z := fun z z3 hz => by rw [ab_upd_off _ _ z3]; exact f z (by omega) (by omega) (by omega)
  have hv : CV m 0 b (ab_upd τ 3 1 0) := by
    refine ⟨by rw [e1 2 (by omega) (by omega)]; exact hA, ⟨m8, by rw [e1 5 (by omega) (by omega)]; exact hC.2.1, fun i hi => by rw [e1 _ (by omega) (by omega)]; exact hC.2.2 i hi⟩, ⟨by omega, ab_upd_same _ _ _ _, fun t ht => by omega⟩, hD.of (by rw [e1 0 (by omega) (by omega)]) (e1 37 (by omega) (by omega)) (e1 39 (by omega) (by omega))⟩
  have f50 : ∀ z, 50 ≤ z → (ab_upd τ 3 1 0) z = σ z := fun z hz => e1 z (by omega) (by omega)
  have f2 : (ab_upd τ 3 1 0) 2 = σ 2 := e1 2 (by omega) (by omega)
  have hL : aur (σ 2) b u 0 (-2) = none → (ab_upd τ 3 1 0) (7 + 3 * m) 2 = nI u := fun e => by rw [ab_upd_off _ _ (by omega)]; exact (hk e).1
  have ho := aur_le (σ 2) b u 0 (-2)
  have u60 := hB.1
  generalize ab_upd τ 3 1 0 = υ at hv f50 f2 hL ⊢
  generalize aur (σ 2) b u 0 (-2) = o at k hL ho ⊢
  cases o with
  | some p =>
    have hp := ho p rfl
    refine ⟨fun q => ?_, fun _ => k υ hv f50 f2⟩
    exfalso
    have q2 : (nI p).toInt = (-1 : Int32).toInt := congrArg Int32.toInt q
    rw [nI_toInt (by omega), li_m1] at q2
    omega
  | none =>
    refine ⟨fun _ => s_X2_isFull_0 ?_, fun q => absurd rfl q⟩
    have c5 := hv.2.1.2.1
    rw [c5]
    have l8 : nI m < 8 ↔ m < 8 := nI_ltI (b := 8) (by omega) (by decide)
    refine ⟨fun q => ⟨_, rfl, fun _ => ?_, fun q2 => absurd rfl q2⟩, fun q => ⟨_, rfl, fun q2 => absurd q2 (by decide), fun _ => ?_⟩⟩
    · have q1 := l8.mp q
      have w5 : (ab_upd υ 0 9 1) 5 1 = nI m := by rw [ab_upd_off _ _ (by decide)]; exact c5
      refine s_X2_keepFree_0 (s_X2_isFull_0 ⟨fun _ => ⟨_, rfl, fun _ => ⟨_, rfl, ?_⟩, fun q2 => absurd rfl q2⟩, fun q2 => absurd (by rw [w5]; exact q) q2⟩)
      rw [ab_upd_same, w5, nI_1]
      have e : clR m none = nI (m + 1) := if_pos q1
      have e' : clM m none = m + 1 := if_pos q1
      rw [e, e'] at k
      have g : ∀ z, z ≠ 0 → z ≠ 5 → (ab_upd (ab_upd υ 0 9 1) 5 1 (nI (m + 1))) z = υ z := fun z z0 z5 => by rw [ab_upd_off _ _ z5, ab_upd_off _ _ z0]
      refine k _ ⟨by rw [g 2 (by omega) (by omega)]; exact hv.1, ⟨by omega, ab_upd_same _ _ _ _, fun i hi => ?_⟩, ?_, hv.2.2.2.of (by rw [ab_upd_off _ _ (by decide), ab_upd_eq, if_neg (by decide)]) (g 37 (by omega) (by omega)) (g 39 (by omega) (by omega))⟩ (fun z hz => by rw [g z (by omega) (by omega)]; exact f50 z hz) (by rw [g 2 (by omega) (by omega)]; exact f2)
      · rw [g _ (by omega) (by omega)]
        by_cases e : i = m
        · rw [e]
          exact ⟨u, u60, hL rfl⟩
        · exact hv.2.1.2.2 i (by omega)
      · unfold Bf
        rw [g 3 (by omega) (by omega), g 4 (by omega) (by omega)]
        exact hv.2.2.1
    · have q1 : ¬ m < 8 := fun q2 => q (l8.mpr q2)
      have e : clR m none = -3 := if_neg q1
      have e' : clM m none = m := if_neg q1
      rw [e, e'] at k
      exact k υ hv f50 f2
theorem m_clause (h : RI m u b σ) (k : ∀ τ, RI (clM m (aur (σ 51) b u 0 (-2))) 0 b τ → (∀ z, z < 50 → τ z = σ z) → τ 51 = σ 51 → Q (some (.inl (clR m (aur (σ 51) b u 0 (-2))))) τ) : evm mX8_clause [.inr (.inr 50)] σ Q := by
  obtain ⟨hA, hC, hB, hF⟩ := id h
  have m8 := hC.1
  have ho := aur_le (σ 51) b u 0 (-2)
  have u60 := hB.1
  have bt := hB.2.2
  refine s_X8_clause_0 (wr_ok hB hA ⟨_, rfl, ?_⟩)
  have hv : RI m 0 b (ab_upd σ 50 2 0) := by
    have g : ∀ z, z ≠ 50 → (ab_upd σ 50 2 0) z = σ z := fun z hz => ab_upd_off _ _ hz
    refine ⟨fun j hj => by rw [g 51 (by decide)]; exact hA j hj, ⟨m8, by rw [ab_upd_eq, if_neg (by decide)]; exact hC.2.1, fun i hi => (hC.2.2 i hi).of (g _ (by decide)) (g _ (by decide)) (g _ (by decide))⟩, ⟨by omega, ab_upd_same _ _ _ _, fun t ht => by omega⟩, ?_⟩
    obtain ⟨n, c, t, r, x⟩ := hF
    exact ⟨n, c, t, r.u50 (by decide), by rw [ab_upd_eq, if_neg (by decide)]; exact x⟩
  have f50 : ∀ z, z < 50 → (ab_upd σ 50 2 0) z = σ z := fun z hz => ab_upd_off _ _ (by omega)
  have f2 : (ab_upd σ 50 2 0) 51 = σ 51 := ab_upd_off _ _ (by decide)
  cases eo : aur (σ 51) b u 0 (-2) with
  | some p =>
    rw [eo] at k
    have hp := ho p eo
    have n0 : ¬ nI p < 0 := nI_pos (by omega)
    exact ⟨fun _ => ⟨fun q => absurd q n0, fun _ => k _ hv f50 f2⟩, fun q => absurd (nI_pos' (by omega)) q⟩
  | none =>
    rw [eo] at k
    refine ⟨fun q => absurd q (by decide), fun _ => ⟨fun q => ⟨fun _ => ?_, fun q2 => absurd (by decide) q2⟩, fun q => ?_⟩⟩
    · have q1 : ¬ m < 8 := by
        rw [hC.2.1] at q
        have := (nI_eq (a := m) (b := 8) (by omega) (by decide)).mp q
        omega
      have e : clR m none = -3 := if_neg q1
      have e' : clM m none = m := if_neg q1
      rw [e, e'] at k
      exact k _ hv f50 f2
    · have q1 : m < 8 := by
        rcases Nat.lt_or_ge m 8 with g | g
        · exact g
        · exfalso
          have : m = 8 := by omega
          exact q (by rw [hC.2.1, this]; rfl)
      have e : clR m none = nI (m + 1) := if_pos q1
      have e' : clM m none = m + 1 := if_pos q1
      rw [e, e'] at k
      rw [hC.2.1]
      refine kpm_ok hB m8 (fun τ a1 a2 a3 a4 a5 a6 a7 => ⟨rfl, ?_⟩)
      have t5 : τ 50 5 = nI m := by rw [a2 5 (by decide)]; exact hC.2.1
      rw [t5, nI_1]
      have v5 : (ab_upd (ab_upd τ 50 5 (nI (m + 1))) 50 13 0) 50 5 = nI (m + 1) := by rw [ab_upd_eq, if_neg (by decide), ab_upd_same]
      rw [v5]
      have g : ∀ z, z ≠ 50 → (ab_upd (ab_upd τ 50 5 (nI (m + 1))) 50 13 0) z = τ z := fun z hz => by rw [ab_upd_off _ _ hz, ab_upd_off _ _ hz]
      have g0 : ∀ t, t ≠ 5 → t ≠ 13 → (ab_upd (ab_upd τ 50 5 (nI (m + 1))) 50 13 0) 50 t = τ 50 t := fun t h1 h2 => by rw [ab_upd_eq, if_neg (by omega), ab_upd_eq, if_neg (by omega)]
      have t51 : τ 51 = σ 51 := a1 51 (by decide) (by decide) (by decide)
      refine k _ ⟨fun j hj => by rw [g 51 (by decide), t51]; exact hA j hj, ⟨by omega, v5, fun i hi => ?_⟩, ⟨by omega, by rw [g0 2 (by decide) (by decide)]; exact a3, fun t ht => by omega⟩, ?_⟩ (fun z hz => by rw [g z (by omega)]; exact a1 z (by omega) (by omega) (by omega)) (by rw [g 51 (by decide)]; exact t51)
      · refine KM.of ?_ (g _ (by decide)) (g _ (by decide)) (g _ (by decide))
        by_cases e : i = m
        · rw [e]
          exact ⟨u, b, u60, a5, fun t ht => ⟨a6 t ht, (bt t ht).2⟩, by rw [t51]; exact eo⟩
        · obtain ⟨L, T, b1, b2, b3, b4⟩ := hC.2.2 i (by omega)
          exact ⟨L, T, b1, by rw [a4 i e]; exact b2, fun t ht => by rw [a7 _ (by omega)]; exact b3 t ht, by rw [t51]; exact b4⟩
      · obtain ⟨n, c, t, r, x⟩ := hF
        have r2 : RS n c t τ := by
          obtain ⟨⟨p1, p1'⟩, ⟨p2, p2'⟩, p3, p4, p5, p5'⟩ := r
          exact ⟨⟨by rw [a2 7 (by decide)]; exact p1, p1'⟩, ⟨by rw [a2 8 (by decide)]; exact p2, p2'⟩, p3.of (a1 _ (by decide) (by decide) (by decide)) (a1 _ (by decide) (by decide) (by decide)) (a1 _ (by decide) (by decide) (by decide)), fun j hj => by rw [a1 55 (by decide) (by decide) (by decide)]; exact p4 j hj, by rw [a2 14 (by decide)]; exact p5, p5'⟩
        exact ⟨n, c, t, (r2.u50 (by decide)).u50 (by decide), by rw [g0 12 (by decide) (by decide), a2 12 (by decide)]; exact x⟩
/-- drop -/
theorem c_drop (h : CV m u b σ) (k : ∀ τ, CV (m - 1) u b τ → (∀ z, 50 ≤ z → τ z = σ z) → τ 2 = σ 2 → Q (some (.inl (if m = 0 then -2 else nI (m - 1)))) τ) : evm mX7_drop [.inr (.inr 0)] σ Q := by
  obtain ⟨hA, hC, hB, hD⟩ := id h
  have m8 := hC.1
  refine s_X7_drop_0 (s_X2_count_0 ⟨_, rfl, ?_⟩)
  rw [hC.2.1]
  rcases m with _ | m
  · exact ⟨fun _ => k σ h (fun _ _ => rfl) rfl, fun q => absurd rfl q⟩
  · refine ⟨fun q => absurd q (nI_ne0 (by omega) (by omega)), fun _ => s_X2_forgetLast_0 ?_⟩
    have w5 : (ab_upd σ 0 9 1) 5 1 = nI (m + 1) := by rw [ab_upd_off _ _ (by decide)]; exact hC.2.1
    rw [w5, nI_pred, ab_upd_same]
    refine ⟨fun q => absurd ((nI_leI (b := 0) (by omega) (by decide)).mp q) (by omega), fun _ => ⟨_, rfl, ?_⟩⟩
    have g : ∀ z, z ≠ 0 → z ≠ 5 → (ab_upd (ab_upd σ 0 9 1) 5 1 (nI m)) z = σ z := fun z z0 z5 => by rw [ab_upd_off _ _ z5, ab_upd_off _ _ z0]
    refine k _ ⟨by rw [g 2 (by omega) (by omega)]; exact hA, ⟨by omega, ab_upd_same _ _ _ _, fun i hi => by rw [g _ (by omega) (by omega)]; exact hC.2.2 i (by omega)⟩, ?_, hD.of (by rw [ab_upd_off _ _ (by decide), ab_upd_eq, if_neg (by decide)]) (g 37 (by omega) (by omega)) (g 39 (by omega) (by omega))⟩ (fun z hz => g z (by omega) (by omega)) (g 2 (by omega) (by omega))
    unfold Bf
    rw [g 3 (by omega) (by omega), g 4 (by omega) (by omega)]
    exact hB
theorem m_drop (h : RI m u b σ) (k : ∀ τ, RI (m - 1) u b τ → (∀ z, z < 50 → τ z = σ z) → τ 51 = σ 51 → Q (some (.inl (if m = 0 then -2 else nI (m - 1)))) τ) : evm mX8_drop [.inr (.inr 50)] σ Q := by
  obtain ⟨hA, hC, hB, hF⟩ := id h
  have m8 := hC.1
  refine s_X8_drop_0 ?_
  rw [hC.2.1]
  rcases m with _ | m
  · exact ⟨fun _ => k σ h (fun _ _ => rfl) rfl, fun q => absurd rfl q⟩
  · refine ⟨fun q => absurd q (nI_ne0 (by omega) (by omega)), fun _ => ?_⟩
    rw [nI_pred]
    have v5 : (ab_upd (ab_upd σ 50 5 (nI m)) 50 13 0) 50 5 = nI m := by rw [ab_upd_eq, if_neg (by decide), ab_upd_same]
    rw [v5]
    have g : ∀ z, z ≠ 50 → (ab_upd (ab_upd σ 50 5 (nI m)) 50 13 0) z = σ z := fun z hz => by rw [ab_upd_off _ _ hz, ab_upd_off _ _ hz]
    have g0 : ∀ t, t ≠ 5 → t ≠ 13 → (ab_upd (ab_upd σ 50 5 (nI m)) 50 13 0) 50 t = σ 50 t := fun t h1 h2 => by rw [ab_upd_eq, if_neg (by omega), ab_upd_eq, if_neg (by omega)]
    refine k _ ⟨fun j hj => by rw [g 51 (by decide)]; exact hA j hj, ⟨by omega, v5, fun i hi => (hC.2.2 i (by omega)).of (g _ (by decide)) (g _ (by decide)) (g _ (by decide))⟩, ⟨hB.1, by rw [g0 2 (by decide) (by decide)]; exact hB.2.1, fun t ht => by rw [g 52 (by decide)]; exact hB.2.2 t ht⟩, ?_⟩ (fun z hz => g z (by omega)) (g 51 (by decide))
    obtain ⟨n, c, t, r, x⟩ := hF
    exact ⟨n, c, t, (r.u50 (by decide)).u50 (by decide), by rw [g0 12 (by decide) (by decide)]; exact x⟩
end CL

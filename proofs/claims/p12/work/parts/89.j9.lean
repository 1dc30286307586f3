/-! find and more on both sides, and each call -/
def foO (r : Option (Nat × Nat × Nat × (Nat → Nat))) : Option (Nat × Bool × (Nat → Nat)) := match r with
  | none => none
  | some (a, _, _, V) => some (a, true, V)
section FM2
variable {σ : ab_M} {Q : Option ab_V → ab_M → Prop} {m u : Nat} {b : Nat → Nat} {Lc : Nat → Nat} {Tc : Nat → Nat → Nat} {o : Option (Nat × Bool × (Nat → Nat))}
theorem cF_O {ar : Nat → Int32} {r : Option (Nat × Nat × Nat × (Nat → Nat))} (h : cF ar Lc Tc m r σ) : cO ar Lc Tc m (foO r) σ := by
  cases r with
  | none => exact h.2
  | some q =>
    obtain ⟨a, p, t, V⟩ := q
    obtain ⟨_, a1, a4, h8, h9, hp, oc, o41, cs⟩ := h
    subst hp
    exact ⟨a1, a4, h8, cs.1, ⟨cs.2.1.2.2.1, cs.2.1.2.2.2⟩, fun q => Bool.noConfusion q, fun _ => ⟨h9, oc, o41, t, cs⟩⟩
theorem rF_O {τ : ab_M} {ar : Nat → Int32} {r : Option (Nat × Nat × Nat × (Nat → Nat))} (hc : cF ar Lc Tc m r τ) (h : rF ar Lc Tc m r σ) : rO ar Lc Tc m (foO r) σ := by
  cases r with
  | none => exact h
  | some q =>
    obtain ⟨a, p, t, V⟩ := q
    obtain ⟨_, a1, a4, _, _, hp, _⟩ := hc
    subst hp
    obtain ⟨h12, h13, orr, rs⟩ := h
    exact ⟨a1, a4, h12, orr.1, rs.1, ⟨rs.2.1.2.2.1, rs.2.1.2.2.2⟩, fun q => Bool.noConfusion q, fun _ => ⟨h13, orr, t, rs⟩⟩
theorem CP.fd {τ : ab_M} {o' : Option (Nat × Bool × (Nat → Nat))} (h : CP m u b Lc Tc o σ) (f : fD σ τ) (hCA : CA τ) (hO : cO (σ 2) Lc Tc m o' τ) : CP m u b Lc Tc o' τ := by
  have m8 := h.2.1.1
  have f2 := f.1 2 (by omega) (by omega)
  refine ⟨by rw [f2]; exact h.1, h.2.1.mv2 f2 (by rw [f.1 5 (by omega) (by omega)]) (fun z h1 h2 => f.1 z (by omega) (by omega)), h.2.2.1.mv (f.1 3 (by omega) (by omega)) (f.1 4 (by omega) (by omega)), hCA, ?_⟩
  rw [f2]
  exact hO
theorem RP.fv {τ : ab_M} {o' : Option (Nat × Bool × (Nat → Nat))} (h : RP m u b Lc Tc o σ) (f : fV σ τ) (hO : rO (σ 51) Lc Tc m o' τ) : RP m u b Lc Tc o' τ := by
  obtain ⟨a, c, e, _⟩ := h
  have f1 : τ 51 = σ 51 := f.lo (by omega)
  refine ⟨a.mw f, c.mw f, e.mv (f.2 2 (by decide)) (f.1 52 (by decide) (by decide) (by decide) (by decide) (by decide) (by decide) (by decide)), ?_⟩
  rw [f1]
  exact hO
theorem CP.u45 (h : CP m u b Lc Tc o σ) : CP m u b Lc Tc o (ab_upd σ 45 6 0) := by
  have g : ∀ z, z ≠ 45 → (ab_upd σ 45 6 0) z = σ z := fun z hz => ab_upd_off _ _ hz
  have m8 := h.2.1.1
  exact h.mv (g 2 (by omega)) (by rw [g 5 (by omega)]) (fun z h1 h2 => g z (by omega)) (h.2.2.1.mv (g 3 (by omega)) (g 4 (by omega))) (by rw [g 0 (by omega)]) (by rw [g 0 (by omega)]) (fun z h1 h2 h3 => g z (by omega)) (Or.inr (ab_upd_same _ _ _ _))
end FM2
theorem w_find {σ : ab_M} (h : IW σ) (x : Int32) : ∃ (v1 v2 : Int32) (σ1 σ2 : ab_M), ev0 mX7_find [.inr (.inr 0), .inl x] σ (some (.inl v1)) σ1 ∧ ev0 mX8_find [.inr (.inr 50), .inl x] σ1 (some (.inl v2)) σ2 ∧ v1 = v2 ∧ IW σ2 := by
  obtain ⟨m, u, b, Lc, Tc, o, hC, hR, hE, h4⟩ := h
  obtain ⟨v, σ1, g1, e1⟩ := evm_of (c_find (x := x) hC.1 hC.2.1 hC.2.2.2.1 (Q := fun v τ => ((x < 1 ∨ ¬ x ≤ 4) ∧ v = some (.inl (-1)) ∧ τ = ab_upd σ 45 6 0) ∨ (∃ w, 1 ≤ w ∧ w ≤ 4 ∧ x = nI w ∧ cF (σ 2) Lc Tc m (fsp (σ 2) Lc Tc m w 1 0).2 τ ∧ fD σ τ ∧ v = some (.inl (fsp (σ 2) Lc Tc m w 1 0).1))) (fun q => Or.inl ⟨q, rfl, rfl⟩) (fun w τ q1 q2 q3 q4 q5 => Or.inr ⟨w, q1, q2, q3, q4, q5, rfl⟩))
  have xw : ∀ {w : Nat}, 1 ≤ w → w ≤ 4 → x = nI w → ¬ (x < 1 ∨ ¬ x ≤ 4) := by
    intro w w1 w4 e q
    rw [e, Int32.lt_iff_toInt_lt, Int32.le_iff_toInt_le, nI_toInt (by omega), li_1, li_4] at q
    omega
  rcases e1 with ⟨q, e1, rfl⟩ | ⟨w, w1, w4, ew, q1, q2, e1⟩
  · have g : ∀ z, z ≠ 45 → (ab_upd σ 45 6 0) z = σ z := fun z hz => ab_upd_off _ _ hz
    have hR1 : RP m u b Lc Tc o (ab_upd σ 45 6 0) := hR.of (fun z hz => g z (by omega))
    obtain ⟨v2, σ2, g2, e2⟩ := evm_of (m_find (x := x) hR1.1 hR1.2.1 (Q := fun v τ => v = some (.inl (-1)) ∧ τ = ab_upd σ 45 6 0) (fun _ => ⟨rfl, rfl⟩) (fun w τ a1 a2 a3 _ _ => absurd q (xw a1 a2 a3)))
    rw [e1] at g1
    rw [e2.1] at g2
    refine ⟨_, _, _, σ2, g1, g2, rfl, ?_⟩
    rw [e2.2]
    exact ⟨m, u, b, Lc, Tc, o, hC.u45, hR1, by rw [g 51 (by decide), g 2 (by decide)]; exact hE, by rw [g 49 (by decide), g 60 (by decide)]; exact h4⟩
  · have f50 : ∀ z, 49 ≤ z → σ1 z = σ z := fun z hz => q2.1 z (by omega) (by omega)
    have hR1 := hR.of (fun z hz => f50 z (by omega))
    have e51 : σ1 51 = σ 2 := by rw [f50 51 (by decide)]; exact hE
    obtain ⟨v2, σ2, g2, e2, p1, p2⟩ := evm_of (m_find (x := x) hR1.1 hR1.2.1 (Q := fun v τ => v = some (.inl (fsp (σ1 51) Lc Tc m w 1 0).1) ∧ rF (σ1 51) Lc Tc m (fsp (σ1 51) Lc Tc m w 1 0).2 τ ∧ fV σ1 τ) (fun q => absurd q (xw w1 w4 ew)) (fun w' τ a1 a2 a3 a4 a5 => by
      have e : w' = w := (nI_eq (by omega) (by omega)).mp (a3.symm.trans ew)
      subst e
      exact ⟨rfl, a4, a5⟩))
    rw [e51] at e2 p1
    rw [e1] at g1
    rw [e2] at g2
    refine ⟨_, _, _, σ2, g1, g2, rfl, m, u, b, Lc, Tc, foO (fsp (σ 2) Lc Tc m w 1 0).2, (hC.fd q2 q1.1 (cF_O q1)).of (fun z hz => p2.lo (Or.inl hz)), hR1.fv p2 ?_, by rw [p2.lo (by omega), p2.lo (by omega), e51, q2.1 2 (by omega) (by omega)], ?_⟩
    · rw [e51]
      exact rF_O q1 p1
    · rw [p2.lo (by omega), p2.1 60 (by decide) (by decide) (by decide) (by decide) (by decide) (by decide) (by decide), f50 49 (by decide), f50 60 (by decide)]
      exact h4
theorem w_more {σ : ab_M} (h : IW σ) : ∃ (v1 v2 : Int32) (σ1 σ2 : ab_M), ev0 mX7_more [.inr (.inr 0)] σ (some (.inl v1)) σ1 ∧ ev0 mX8_more [.inr (.inr 50)] σ1 (some (.inl v2)) σ2 ∧ v1 = v2 ∧ IW σ2 := by
  obtain ⟨m, u, b, Lc, Tc, o, hC, hR, hE, h4⟩ := h
  have g : ∀ z, z ≠ 45 → (ab_upd σ 45 6 0) z = σ z := fun z hz => ab_upd_off _ _ hz
  have no : ((σ 0 8 = 0 ∨ ¬ σ 0 9 = 0) ∧ (σ 50 12 = 0 ∨ σ 50 13 = 0)) → ∃ (v1 v2 : Int32) (σ1 σ2 : ab_M), ev0 mX7_more [.inr (.inr 0)] σ (some (.inl v1)) σ1 ∧ ev0 mX8_more [.inr (.inr 50)] σ1 (some (.inl v2)) σ2 ∧ v1 = v2 ∧ IW σ2 := by
    rintro ⟨n1, n2⟩
    obtain ⟨v, σ1, g1, e1, rfl⟩ := evm_of (M := mX7_more) (as := [.inr (.inr 0)]) (s_X7_more_0 (σ := σ) (Q := fun v τ => v = some (.inl (-2)) ∧ τ = ab_upd σ 45 6 0) (s_X4_countAnew_0 ⟨rfl, fun _ => ⟨rfl, rfl⟩, fun q => ⟨fun q2 => by
      rw [g 0 (by decide)] at q q2
      exact absurd q2 (n1.resolve_left q), fun _ => ⟨rfl, rfl⟩⟩⟩))
    have hR1 : RP m u b Lc Tc o (ab_upd σ 45 6 0) := hR.of (fun z hz => g z (by omega))
    obtain ⟨v2, σ2, g2, e2, e3⟩ := evm_of (M := mX8_more) (as := [.inr (.inr 50)]) (s_X8_more_0 (σ := ab_upd σ 45 6 0) (Q := fun v τ => v = some (.inl (-2)) ∧ τ = ab_upd σ 45 6 0) ⟨fun _ => ⟨rfl, rfl⟩, fun q => ⟨fun _ => ⟨rfl, rfl⟩, fun q2 => by
      rw [g 50 (by decide)] at q q2
      exact absurd (n2.resolve_left q) q2⟩⟩)
    rw [e1] at g1
    rw [e2] at g2
    refine ⟨_, _, _, σ2, g1, g2, rfl, ?_⟩
    rw [e3]
    exact ⟨m, u, b, Lc, Tc, o, hC.u45, hR1, by rw [g 51 (by decide), g 2 (by decide)]; exact hE, by rw [g 49 (by decide), g 60 (by decide)]; exact h4⟩
  obtain ⟨c1, c2, c3, c4, c5⟩ := id hC
  obtain ⟨r1, r2, r3, r4⟩ := id hR
  cases o with
  | none => exact no ⟨Or.inl c5, Or.inl r4⟩
  | some q =>
    obtain ⟨n, fr, V⟩ := q
    obtain ⟨n1, n4, e8, hV, hb, hs, hf⟩ := id c5
    obtain ⟨_, _, e12, e7, hVr, _, hs2, hf2⟩ := id r4
    cases fr with
    | false => exact no ⟨Or.inr (by rw [hs rfl]; decide), Or.inr (hs2 rfl)⟩
    | true =>
      obtain ⟨e9, oc, o41, t, cs⟩ := hf rfl
      obtain ⟨e13, orr, t2, rs⟩ := hf2 rfl
      obtain ⟨v, σ1, g1, q2, e1⟩ := evm_of (c_more n1 n4 c1 c2 e8 e9 oc o41 cs (Q := fun v τ => fD σ τ ∧ (((msp (σ 2) Lc Tc m n V).1 = 1 ∧ CA τ ∧ cO (σ 2) Lc Tc m (some (n, true, (msp (σ 2) Lc Tc m n V).2.2.2)) τ ∧ v = some (.inl 1)) ∨ (¬ (msp (σ 2) Lc Tc m n V).1 = 1 ∧ CA τ ∧ cO (σ 2) Lc Tc m none τ ∧ v = some (.inl (msp (σ 2) Lc Tc m n V).1)))) (fun q τ a8 a9 ao a41 acs af => ⟨af, Or.inl ⟨q, acs.2.2.1, ⟨n1, n4, a8, acs.1, ⟨acs.2.1.2.2.1, acs.2.1.2.2.2⟩, fun q => Bool.noConfusion q, fun _ => ⟨a9, ao, a41, _, acs⟩⟩, rfl⟩⟩) (fun q τ a8 aca af => ⟨af, Or.inr ⟨q, aca, a8, rfl⟩⟩))
      have f50 : ∀ z, 49 ≤ z → σ1 z = σ z := fun z hz => q2.1 z (by omega) (by omega)
      have hR1 := hR.of (fun z hz => f50 z (by omega))
      have e51 : σ1 51 = σ 2 := by rw [f50 51 (by decide)]; exact hE
      obtain ⟨r1, r2, r3, r4⟩ := id hR1
      obtain ⟨_, _, e12, e7, hVr, _, hs2, hf2⟩ := id r4
      obtain ⟨e13, orr, t2, rs⟩ := hf2 rfl
      obtain ⟨v2, σ2, g2, p2, e2⟩ := evm_of (m_more n1 n4 r1 r2 e12 e13 orr rs (Q := fun v τ => fV σ1 τ ∧ (((msp (σ1 51) Lc Tc m n V).1 = 1 ∧ rO (σ1 51) Lc Tc m (some (n, true, (msp (σ1 51) Lc Tc m n V).2.2.2)) τ ∧ v = some (.inl 1)) ∨ (¬ (msp (σ1 51) Lc Tc m n V).1 = 1 ∧ rO (σ1 51) Lc Tc m none τ ∧ v = some (.inl (msp (σ1 51) Lc Tc m n V).1)))) (fun q τ a8 a9 ao acs af => ⟨af, Or.inl ⟨q, ⟨n1, n4, a8, ao.1, acs.1, ⟨acs.2.1.2.2.1, acs.2.1.2.2.2⟩, fun q => Bool.noConfusion q, fun _ => ⟨a9, ao, _, acs⟩⟩, rfl⟩⟩) (fun q τ a8 af => ⟨af, Or.inr ⟨q, a8, rfl⟩⟩))
      have k49 : ∀ v, v < 3 → σ2 49 v = σ2 60 v := by
        rw [p2.lo (by omega), p2.1 60 (by decide) (by decide) (by decide) (by decide) (by decide) (by decide) (by decide), f50 49 (by decide), f50 60 (by decide)]
        exact h4
      have kE : σ2 51 = σ2 2 := by rw [p2.lo (by omega), p2.lo (by omega), e51, q2.1 2 (by omega) (by omega)]
      rcases e1 with ⟨x1, x2, x3, x4⟩ | ⟨x1, x2, x3, x4⟩
      · rcases e2 with ⟨y1, y2, y3⟩ | ⟨y1, y2, y3⟩
        · rw [x4] at g1
          rw [y3] at g2
          rw [e51] at y2
          exact ⟨_, _, _, σ2, g1, g2, rfl, m, u, b, Lc, Tc, _, (hC.fd q2 x2 x3).of (fun z hz => p2.lo (Or.inl hz)), hR1.fv p2 (by rw [e51]; exact y2), kE, k49⟩
        · rw [e51] at y1
          exact absurd x1 y1
      · rcases e2 with ⟨y1, y2, y3⟩ | ⟨y1, y2, y3⟩
        · rw [e51] at y1
          exact absurd y1 x1
        · rw [x4] at g1
          rw [y3] at g2
          rw [e51] at y2
          exact ⟨_, _, _, σ2, g1, g2, by rw [e51], m, u, b, Lc, Tc, none, (hC.fd q2 x2 x3).of (fun z hz => p2.lo (Or.inl hz)), hR1.fv p2 (by rw [e51]; exact y2), kE, k49⟩

section SY
variable {σ : ab_M} {Q : Option ab_V → ab_M → Prop} {m u : Nat} {b : Nat → Nat}
/-- symbol -/
def syR (c a : Int32) : Int32 := if r_symbolOf (fun _ _ => 0) c < 0 then 0 else if a < -1 then 0 else if a ≤ 2 then 1 else 0
theorem r_sy0 (σ τ : ab_M) (c : Int32) : r_symbolOf σ c = r_symbolOf τ c := rfl
theorem arok_of {a : Int32} (h1 : ¬ a < -1) (h2 : a ≤ 2) : arok a := by
  rw [Int32.lt_iff_toInt_lt, li_m1] at h1
  rw [Int32.le_iff_toInt_le, li_2] at h2
  unfold arok
  rw [← Int32.toInt_inj, ← Int32.toInt_inj, ← Int32.toInt_inj, ← Int32.toInt_inj, li_m1, li_0, li_1, li_2]
  omega
theorem c_symbol {c a : Int32} (h : CV m u b σ) (k0 : (r_symbolOf σ c < 0 ∨ a < -1 ∨ ¬ a ≤ 2) → Q (some (.inl 0)) σ) (k1 : ∀ j, j < 8 → r_symbolOf σ c = nI j → arok a → ∀ τ, CV 0 u b τ → (∀ z, 50 ≤ z → τ z = σ z) → τ 2 = upd (σ 2) j a → Q (some (.inl 1)) τ) : evm mX7_symbol [.inr (.inr 0), .inl c, .inl a] σ Q := by
  obtain ⟨hA, hC, hB, hD⟩ := id h
  refine x_symbol σ c a ?_
  unfold r_symbol m_symbol
  rcases sy_rel σ σ c with ⟨h1, h2⟩ | ⟨j, hj, h1, h2⟩
  · have kk := k0 (Or.inl h1)
    rcases h2 with h2 | h2
    · rw [if_pos h2, if_pos h2]
      exact kk
    · by_cases h3 : r_codeOf σ c < 0
      · rw [if_pos h3, if_pos h3]
        exact kk
      · rw [if_neg h3, if_pos h2, if_neg h3, if_pos h2]
        exact kk
  · have q1 : ¬ nI j < 0 := nI_pos (by omega)
    have q2 : ¬ 8 ≤ nI j := nI_ge (b := 8) hj (by decide)
    rw [h2, if_neg q1, if_neg q2, if_neg q1, if_neg q2]
    by_cases h3 : a < -1
    · rw [if_pos h3, if_pos h3]
      exact k0 (Or.inr (Or.inl h3))
    · rw [if_neg h3, if_neg h3]
      by_cases h4 : a ≤ 2
      · rw [if_pos h4, if_pos h4]
        unfold m_forgetAll m_define
        rw [if_neg q1, if_neg q2, nI_clamp (by omega)]
        have ha := arok_of h3 h4
        have g : ∀ z, z ≠ 0 → z ≠ 2 → z ≠ 5 → (ab_upd (ab_upd (ab_upd σ 2 j a) 5 1 0) 0 8 0) z = σ z := fun z z0 z2 z5 => by rw [ab_upd_off _ _ z0, ab_upd_off _ _ z5, ab_upd_off _ _ z2]
        have g2 : (ab_upd (ab_upd (ab_upd σ 2 j a) 5 1 0) 0 8 0) 2 = upd (σ 2) j a := by rw [ab_upd_off _ _ (by decide), ab_upd_off _ _ (by decide), ab_upd_cell]
        refine k1 j hj h1 ha _ ⟨fun i hi => ?_, ⟨by omega, by rw [ab_upd_off _ _ (by decide), ab_upd_same]; rfl, fun i hi => by omega⟩, ?_, ?_⟩ (fun z hz => g z (by omega) (by omega) (by omega)) g2
        · rw [ab_upd_off _ _ (by decide), ab_upd_off _ _ (by decide), ab_upd_eq]
          split
          · exact ha
          · exact hA i hi
        · unfold Bf
          rw [g 3 (by omega) (by omega) (by omega), g 4 (by omega) (by omega) (by omega)]
          exact hB
        · obtain ⟨⟨n, hn⟩, _⟩ := hD
          exact ⟨⟨n, TI_of hn (g 37 (by omega) (by omega) (by omega)) (g 39 (by omega) (by omega) (by omega))⟩, 0, by omega, ab_upd_same _ _ _ _⟩
      · rw [if_neg h4, if_neg h4]
        exact k0 (Or.inr (Or.inr h4))
theorem m_symbol2 {c a : Int32} (h : RI m u b σ) (k0 : (r_symbolOf σ c < 0 ∨ a < -1 ∨ ¬ a ≤ 2) → Q (some (.inl 0)) σ) (k1 : ∀ j, j < 8 → r_symbolOf σ c = nI j → arok a → ∀ τ, RI 0 u b τ → (∀ z, z < 50 → τ z = σ z) → τ 51 = upd (σ 51) j a → Q (some (.inl 1)) τ) : evm mX8_symbol [.inr (.inr 50), .inl c, .inl a] σ Q := by
  obtain ⟨hA, hC, hB, hF⟩ := id h
  refine s_X8_symbol_0 (x_symbolOf σ c ⟨_, rfl, fun h1 => k0 (Or.inl h1), fun h1 => ⟨fun h2 => k0 (Or.inr (Or.inl h2)), fun h2 => ⟨fun h3 => ?_, fun h3 => k0 (Or.inr (Or.inr h3))⟩⟩⟩)
  rcases sy_rel σ σ c with ⟨q1, _⟩ | ⟨j, hj, e1, _⟩
  · exact absurd q1 h1
  · rw [e1, nI_clamp (by omega)]
    have ha := arok_of h2 h3
    have g : ∀ z, z ≠ 50 → z ≠ 51 → (ab_upd (ab_upd (ab_upd σ 51 j a) 50 5 0) 50 12 0) z = σ z := fun z z0 z1 => by rw [ab_upd_off _ _ z0, ab_upd_off _ _ z0, ab_upd_off _ _ z1]
    have g0 : ∀ t, t ≠ 5 → t ≠ 12 → (ab_upd (ab_upd (ab_upd σ 51 j a) 50 5 0) 50 12 0) 50 t = σ 50 t := fun t t5 t12 => by rw [ab_upd_eq, if_neg (by omega), ab_upd_eq, if_neg (by omega), ab_upd_off _ _ (by decide)]
    refine ⟨in8 hj, k1 j hj e1 ha _ ⟨fun i hi => ?_, ⟨by omega, by rw [ab_upd_eq, if_neg (by decide), ab_upd_same]; rfl, fun i hi => by omega⟩, ⟨hB.1, by rw [g0 2 (by decide) (by decide)]; exact hB.2.1, fun t ht => by rw [g 52 (by decide) (by decide)]; exact hB.2.2 t ht⟩, ?_⟩ (fun z hz => g z (by omega) (by omega)) (by rw [ab_upd_off _ _ (by decide), ab_upd_off _ _ (by decide), ab_upd_cell])⟩
    · rw [ab_upd_off _ _ (by decide), ab_upd_off _ _ (by decide), ab_upd_eq]
      split
      · exact ha
      · exact hA i hi
    · obtain ⟨n, c, t, ⟨⟨p1, p1'⟩, ⟨p2, p2'⟩, p3, p4, p5, p5'⟩, x⟩ := hF
      exact ⟨n, c, t, ⟨⟨by rw [g0 7 (by decide) (by decide)]; exact p1, p1'⟩, ⟨by rw [g0 8 (by decide) (by decide)]; exact p2, p2'⟩, p3.of (g _ (by decide) (by decide)) (g _ (by decide) (by decide)) (g _ (by decide) (by decide)), fun j hj => by rw [g 55 (by decide) (by decide)]; exact p4 j hj, by rw [g0 14 (by decide) (by decide)]; exact p5, p5'⟩, Or.inl (ab_upd_same _ _ _ _)⟩
/-- type -/
theorem tyM_or (w : Int64) (n : Int32) (a : Nat) : (∀ ap σ, tyM w n a ap σ = σ) ∨ ∃ j, a + j ≤ 60 ∧ ∀ ap σ, tyM w n a ap σ = ap j σ := by
  unfold tyM
  by_cases h1 : n < 1
  · exact Or.inl (fun ap σ => if_pos h1)
  · by_cases h2 : 8 < n
    · exact Or.inl (fun ap σ => by rw [if_neg h1, if_pos h2])
    · cases hv : vis w n.toNatClampNeg with
      | false => exact Or.inl (fun ap σ => by rw [if_neg h1, if_neg h2]; rfl)
      | true =>
        by_cases h3 : a + n.toNatClampNeg ≤ 60
        · exact Or.inr ⟨_, h3, fun ap σ => by rw [if_neg h1, if_neg h2, if_pos h3]; rfl⟩
        · exact Or.inl (fun ap σ => by rw [if_neg h1, if_neg h2, if_neg h3]; rfl)
def tyB (w : Int64) (u j : Nat) (b : Nat → Nat) (t : Nat) : Nat := if u ≤ t ∧ t < u + j then tb w (j - 1 - (t - u)) else b t
theorem tyB_ok {f : Nat → Int32} {w : Int64} {j : Nat} (h : ∀ t, t < u → f t = nI (b t) ∧ b t < 256) (t : Nat) (ht : t < u + j) : (if u ≤ t ∧ t < u + j then nI (tb w (j - 1 - (t - u))) else f t) = nI (tyB w u j b t) ∧ tyB w u j b t < 256 := by
  unfold tyB
  by_cases e : u ≤ t ∧ t < u + j
  · rw [if_pos e, if_pos e]
    exact ⟨rfl, tb_lt _ _⟩
  · rw [if_neg e, if_neg e]
    exact h t (by omega)
theorem c_type (w : Int64) (n : Int32) (h : CV m u b σ) (kk : ∀ τ, (∀ z, 50 ≤ z → τ z = σ z) → τ 2 = σ 2 → ((∀ ap ρ, tyM w n u ap ρ = ρ) ∧ CV m u b τ ∨ ∃ j, u + j ≤ 60 ∧ (∀ ap ρ, tyM w n u ap ρ = ap j ρ) ∧ CV m (u + j) (tyB w u j b) τ) → Q (some (.inl (tyR w n u))) τ) : evm mX7_type [.inr (.inr 0), .inr (.inl w), .inl n] σ Q := by
  obtain ⟨hA, hC, hB, hD⟩ := id h
  have m8 := hC.1
  refine ty_class w n hB.2.1 hB.1 ?_
  rcases tyM_or w n u with e | ⟨j, hj, e⟩
  · rw [e]
    exact kk σ (fun _ _ => rfl) rfl (Or.inl ⟨e, h⟩)
  · rw [e]
    obtain ⟨a1, a2, a3⟩ := ap_c_ok w j u σ hB.2.1 hj
    refine kk _ (fun z hz => a2 z (by omega) (by omega)) (a2 2 (by decide) (by decide)) (Or.inr ⟨j, hj, e, by rw [a2 2 (by decide) (by decide)]; exact hA, ⟨m8, by rw [a2 5 (by decide) (by decide)]; exact hC.2.1, fun i hi => by rw [a2 _ (by omega) (by omega)]; exact hC.2.2 i hi⟩, ⟨hj, a1, fun t ht => by rw [a3]; exact tyB_ok hB.2.2 t ht⟩, hD.of (by rw [a2 0 (by decide) (by decide)]) (a2 37 (by decide) (by decide)) (a2 39 (by decide) (by decide))⟩)
theorem m_type (w : Int64) (n : Int32) (h : RI m u b σ) (kk : ∀ τ, (∀ z, z < 50 → τ z = σ z) → τ 51 = σ 51 → ((∀ ap ρ, tyM w n u ap ρ = ρ) → RI m u b τ) → (∀ j, u + j ≤ 60 → (∀ ap ρ, tyM w n u ap ρ = ap j ρ) → RI m (u + j) (tyB w u j b) τ) → Q (some (.inl (tyR w n u))) τ) : evm mX8_type [.inr (.inr 50), .inr (.inl w), .inl n] σ Q := by
  obtain ⟨hA, hC, hB, hF⟩ := id h
  have m8 := hC.1
  have up : ∀ j, u + j ≤ 60 → RI m (u + j) (tyB w u j b) (ap_m w j σ) ∧ (∀ z, z < 50 → ap_m w j σ z = σ z) ∧ ap_m w j σ 51 = σ 51 := by
    intro j hj
    obtain ⟨a1, a2, a3, a4⟩ := ap_m_ok w j u σ hB.2.1 hj
    refine ⟨⟨fun i hi => by rw [a2 51 (by decide) (by decide)]; exact hA i hi, ⟨m8, by rw [a4 5 (by decide)]; exact hC.2.1, fun i hi => (hC.2.2 i hi).of (a2 _ (by decide) (by decide)) (a2 _ (by decide) (by decide)) (a2 _ (by decide) (by decide))⟩, ⟨hj, a1, fun t ht => by rw [a3]; exact tyB_ok hB.2.2 t ht⟩, ?_⟩, fun z hz => a2 z (by omega) (by omega), a2 51 (by decide) (by decide)⟩
    obtain ⟨n, c, t, ⟨⟨p1, p1'⟩, ⟨p2, p2'⟩, p3, p4, p5, p5'⟩, x⟩ := hF
    exact ⟨n, c, t, ⟨⟨by rw [a4 7 (by decide)]; exact p1, p1'⟩, ⟨by rw [a4 8 (by decide)]; exact p2, p2'⟩, p3.of (a2 _ (by decide) (by decide)) (a2 _ (by decide) (by decide)) (a2 _ (by decide) (by decide)), fun j hj => by rw [a2 55 (by decide) (by decide)]; exact p4 j hj, by rw [a4 14 (by decide)]; exact p5, p5'⟩, by rw [a4 12 (by decide)]; exact x⟩
  refine ty_model w n hB.2.1 hB.1 (kk _ ?_ ?_ (fun e => by rw [e]; exact h) (fun j hj e => by rw [e]; exact (up j hj).1))
  · rcases tyM_or w n u with e | ⟨j, hj, e⟩
    · rw [e]; exact fun _ _ => rfl
    · rw [e]; exact (up j hj).2.1
  · rcases tyM_or w n u with e | ⟨j, hj, e⟩
    · rw [e]
    · rw [e]; exact (up j hj).2.2
/-- check -/
theorem c_check (h : CV m u b σ) (k : ∀ (r : Int32) τ, CV m 0 b τ → (∀ z, 50 ≤ z → τ z = σ z) → τ 2 = σ 2 → Q (some (.inl r)) τ) : evm mX7_check [.inr (.inr 0)] σ Q := by
  obtain ⟨hA, hC, hB, hD⟩ := id h
  have m8 := hC.1
  have u60 := hB.1
  refine s_X7_check_0 (rd_ok (q := 34) ⟨9, by omega, rfl⟩ hB hA (fun τ f hk => ⟨_, rfl, s_X0_empty_0 ⟨rfl, ?_⟩⟩))
  have e1 : ∀ z, z ≠ 3 → (z < 34 ∨ 36 < z) → (ab_upd τ 3 1 0) z = σ z := fun z z3 hz => by rw [ab_upd_off _ _ z3]; exact f z (by omega) (by omega) (by omega)
  have hv : CV m 0 b (ab_upd τ 3 1 0) := by
    refine ⟨by rw [e1 2 (by omega) (by omega)]; exact hA, ⟨m8, by rw [e1 5 (by omega) (by omega)]; exact hC.2.1, fun i hi => by rw [e1 _ (by omega) (by omega)]; exact hC.2.2 i hi⟩, ⟨by omega, ab_upd_same _ _ _ _, fun t ht => by omega⟩, hD.of (by rw [e1 0 (by omega) (by omega)]) (e1 37 (by omega) (by omega)) (e1 39 (by omega) (by omega))⟩
  have f50 : ∀ z, 50 ≤ z → (ab_upd τ 3 1 0) z = σ z := fun z hz => e1 z (by omega) (by omega)
  have f2 : (ab_upd τ 3 1 0) 2 = σ 2 := e1 2 (by omega) (by omega)
  have hL : aur (σ 2) b u 0 (-2) = none → (ab_upd τ 3 1 0) 34 2 = nI u := fun e => by rw [ab_upd_off _ _ (by omega)]; exact (hk e).1
  have ho := aur_le (σ 2) b u 0 (-2)
  generalize ab_upd τ 3 1 0 = υ at hv f50 f2 hL ⊢
  cases eo : aur (σ 2) b u 0 (-2) with
  | some p =>
    have hp := ho p eo
    refine ⟨fun q => ?_, fun _ => k _ υ hv f50 f2⟩
    exfalso
    have q2 : (nI p).toInt = (-1 : Int32).toInt := congrArg Int32.toInt q
    rw [nI_toInt (by omega), li_m1] at q2
    omega
  | none =>
    refine ⟨fun _ => ⟨fun _ => k _ υ hv f50 f2, fun _ => ?_⟩, fun q => absurd rfl q⟩
    refine hs_s u60 (hL eo) hv.2.2.2 (fun r ω fw => ⟨_, rfl, ?_⟩)
    have g : CV m 0 b ω := hv.mv (fw 2 (by omega)) (fw 3 (by omega)) (fw 4 (by omega)) (fw 5 (by omega)) (fun i hi => fw _ (by omega)) (hv.2.2.2.of (by rw [fw 0 (by omega)]) (fw 37 (by omega)) (fw 39 (by omega)))
    have g50 : ∀ z, 50 ≤ z → ω z = σ z := fun z hz => by rw [fw z (by omega)]; exact f50 z hz
    have g2 : ω 2 = σ 2 := by rw [fw 2 (by omega)]; exact f2
    exact ⟨fun _ => k _ ω g g50 g2, fun _ => k _ ω g g50 g2⟩
theorem m_check (h : RI m u b σ) (k : ∀ (r : Int32) τ, RI m 0 b τ → (∀ z, z < 50 → τ z = σ z) → τ 51 = σ 51 → Q (some (.inl r)) τ) : evm mX8_check [.inr (.inr 50)] σ Q := by
  obtain ⟨hA, hC, hB, hF⟩ := id h
  have m8 := hC.1
  have u60 := hB.1
  have bt := hB.2.2
  have ho := aur_le (σ 51) b u 0 (-2)
  refine s_X8_check_0 (wr_ok hB hA ⟨_, rfl, ?_⟩)
  have hv : RI m 0 b (ab_upd σ 50 2 0) := by
    have g : ∀ z, z ≠ 50 → (ab_upd σ 50 2 0) z = σ z := fun z hz => ab_upd_off _ _ hz
    refine ⟨fun j hj => by rw [g 51 (by decide)]; exact hA j hj, ⟨m8, by rw [ab_upd_eq, if_neg (by decide)]; exact hC.2.1, fun i hi => (hC.2.2 i hi).of (g _ (by decide)) (g _ (by decide)) (g _ (by decide))⟩, ⟨by omega, ab_upd_same _ _ _ _, fun t ht => by omega⟩, ?_⟩
    obtain ⟨n, c, t, r, x⟩ := hF
    exact ⟨n, c, t, r.u50 (by decide), by rw [ab_upd_eq, if_neg (by decide)]; exact x⟩
  have f50 : ∀ z, z < 50 → (ab_upd σ 50 2 0) z = σ z := fun z hz => ab_upd_off _ _ (by omega)
  have f2 : (ab_upd σ 50 2 0) 51 = σ 51 := ab_upd_off _ _ (by decide)
  have bad : ∀ r, Q (some (.inl r)) (ab_upd σ 50 2 0) := fun r => k r _ hv f50 f2
  cases eo : aur (σ 51) b u 0 (-2) with
  | some p =>
    have hp := ho p eo
    exact ⟨fun _ => ⟨fun _ => bad _, fun _ => bad _⟩, fun q => absurd (nI_pos' (by omega)) q⟩
  | none =>
    refine ⟨fun q => absurd q (by decide), fun _ => ⟨fun q => ⟨fun _ => bad _, fun _ => bad _⟩, fun q => ?_⟩⟩
    obtain ⟨n, c, t, r, x⟩ := hF
    have n1 : 1 ≤ n := by
      rcases x with x | x
      · exact absurd x q
      · exact x
    refine kpm_ok (i := 8) hB (by omega) (fun τ a1 a2 a3 a4 a5 a6 a7 => ⟨rfl, ?_⟩)
    have t51 : τ 51 = σ 51 := a1 51 (by decide) (by decide) (by decide)
    have hA2 : AR τ := fun j hj => by rw [t51]; exact hA j hj
    have hC2 : CM m τ := ⟨m8, by rw [a2 5 (by decide)]; exact hC.2.1, fun i hi => by
      obtain ⟨L, T, b1, b2, b3, b4⟩ := hC.2.2 i hi
      exact ⟨L, T, b1, by rw [a4 i (by omega)]; exact b2, fun t ht => by rw [a7 _ (by omega)]; exact b3 t ht, by rw [t51]; exact b4⟩⟩
    have r2 : RS n c t τ := by
      obtain ⟨⟨p1, p1'⟩, ⟨p2, p2'⟩, p3, p4, p5, p5'⟩ := r
      exact ⟨⟨by rw [a2 7 (by decide)]; exact p1, p1'⟩, ⟨by rw [a2 8 (by decide)]; exact p2, p2'⟩, p3.of (a1 _ (by decide) (by decide) (by decide)) (a1 _ (by decide) (by decide) (by decide)) (a1 _ (by decide) (by decide) (by decide)), fun j hj => by rw [a1 55 (by decide) (by decide) (by decide)]; exact p4 j hj, by rw [a2 14 (by decide)]; exact p5, p5'⟩
    have k8 : KM 8 τ := ⟨u, b, u60, a5, fun t ht => ⟨a6 t ht, (bt t ht).2⟩, by rw [t51]; exact eo⟩
    refine br_s (i := 8) (by omega) hA2 k8 r2.2.2.2.1 r2.1.1 n1 r2.1.2 (fun r5 υ fu => ⟨_, rfl, ?_⟩)
    have hw : RI m 0 b υ := ⟨hA2.mv fu, hC2.mv fu, ⟨by omega, by rw [fu.2 2 (by decide)]; exact a3, fun t ht => by omega⟩, n, c, t, r2.mb fu, Or.inr n1⟩
    have w50 : ∀ z, z < 50 → υ z = σ z := fun z hz => by rw [fu.1 z (by omega) (by omega) (by omega)]; exact a1 z (by omega) (by omega) (by omega)
    have w51 : υ 51 = σ 51 := by rw [fu.1 51 (by omega) (by omega) (by omega)]; exact t51
    refine ⟨fun _ => k _ υ hw w50 w51, fun _ => ?_⟩
    have loop : ∀ (d a : Nat) (x1 : Int32) (ω : ab_M), a + d = 3 → (∀ z, z ≠ 60 → ω z = υ z) → ev mX8_check 54 [some (.inr (.inr 50)), some (.inl x1), some (.inl (nI a))] [] ω Q := by
      intro d
      induction d with
      | zero =>
        intro a x1 ω ha fo
        refine s_X8_check_54 ⟨fun _ => k _ ω ?_ (fun z hz => by rw [fo z (by omega)]; exact w50 z hz) (by rw [fo 51 (by decide)]; exact w51), fun q => absurd (nI_le (a := 3) (by omega) (by omega)) q⟩
        obtain ⟨x1, x2, x3, x4⟩ := hw
        refine ⟨fun j hj => by rw [fo 51 (by decide)]; exact x1 j hj, ⟨m8, by rw [fo 50 (by decide)]; exact x2.2.1, fun i hi => (x2.2.2 i hi).of (fo _ (by decide)) (fo _ (by decide)) (fo _ (by decide))⟩, ?_, x4.of (fo _ (by decide)) (fo _ (by decide)) (fo _ (by decide)) (fo _ (by decide)) (fo _ (by decide))⟩
        unfold Bm
        rw [fo 50 (by decide), fo 52 (by decide)]
        exact x3
      | succ d ih =>
        intro a x1 ω ha fo
        have ii := inN (j := a) (n := 3) (by omega) (by decide)
        refine s_X8_check_54 ⟨fun q => absurd q (nI_ge (b := 3) (by omega) (by decide)), fun _ => ⟨ii, ii, ?_⟩⟩
        rw [nI_1]
        exact ih (a + 1) x1 _ (by omega) (fun z hz => by rw [ab_upd_off _ _ hz]; exact fo z hz)
    exact loop 3 0 _ υ (by omega) (fun _ _ => rfl)
end SY

section SY2
variable {σ : ab_M} {Q : Option ab_V → ab_M → Prop} {m u : Nat} {b : Nat → Nat} {Lc : Nat → Nat} {Tc : Nat → Nat → Nat} {o : Option (Nat × Bool × (Nat → Nat))}
/-- symbol -/
theorem c2_symbol {c a : Int32} (h : CP m u b Lc Tc o σ) (k0 : (r_symbolOf σ c < 0 ∨ a < -1 ∨ ¬ a ≤ 2) → Q (some (.inl 0)) σ) (k1 : ∀ j, j < 8 → r_symbolOf σ c = nI j → arok a → ∀ τ, CP 0 u b Lc Tc none τ → (∀ z, 49 ≤ z → τ z = σ z) → τ 2 = upd (σ 2) j a → Q (some (.inl 1)) τ) : evm mX7_symbol [.inr (.inr 0), .inl c, .inl a] σ Q := by
  obtain ⟨hA, hC, hB, hCA, hO⟩ := id h
  refine x_symbol σ c a ?_
  unfold r_symbol m_symbol
  rcases sy_rel σ σ c with ⟨h1, h2⟩ | ⟨j, hj, h1, h2⟩
  · have kk := k0 (Or.inl h1)
    rcases h2 with h2 | h2
    · rw [if_pos h2, if_pos h2]
      exact kk
    · by_cases h3 : r_codeOf σ c < 0
      · rw [if_pos h3, if_pos h3]
        exact kk
      · rw [if_neg h3, if_pos h2, if_neg h3, if_pos h2]
        exact kk
  · have q1 : ¬ nI j < 0 := nI_pos (by omega)
    have q2 : ¬ 8 ≤ nI j := nI_ge (b := 8) hj (by decide)
    rw [h2, if_neg q1, if_neg q2, if_neg q1, if_neg q2]
    by_cases h3 : a < -1
    · rw [if_pos h3, if_pos h3]
      exact k0 (Or.inr (Or.inl h3))
    · rw [if_neg h3, if_neg h3]
      by_cases h4 : a ≤ 2
      · rw [if_pos h4, if_pos h4]
        unfold m_forgetAll m_define
        rw [if_neg q1, if_neg q2, nI_clamp (by omega)]
        have ha := arok_of h3 h4
        have g : ∀ z, z ≠ 0 → z ≠ 2 → z ≠ 5 → (ab_upd (ab_upd (ab_upd σ 2 j a) 5 1 0) 0 8 0) z = σ z := fun z z0 z2 z5 => by rw [ab_upd_off _ _ z0, ab_upd_off _ _ z5, ab_upd_off _ _ z2]
        have g2 : (ab_upd (ab_upd (ab_upd σ 2 j a) 5 1 0) 0 8 0) 2 = upd (σ 2) j a := by rw [ab_upd_off _ _ (by decide), ab_upd_off _ _ (by decide), ab_upd_cell]
        refine k1 j hj h1 ha _ ⟨fun i hi => ?_, ⟨by omega, by rw [ab_upd_off _ _ (by decide), ab_upd_same]; rfl, fun i hi => by omega⟩, hB.mv (g 3 (by omega) (by omega) (by omega)) (g 4 (by omega) (by omega) (by omega)), hCA.mv (g 46 (by omega) (by omega) (by omega)) (g 47 (by omega) (by omega) (by omega)), ab_upd_same _ _ _ _⟩ (fun z hz => g z (by omega) (by omega) (by omega)) g2
        rw [ab_upd_off _ _ (by decide), ab_upd_off _ _ (by decide), ab_upd_eq]
        split
        · exact ha
        · exact hA i hi
      · rw [if_neg h4, if_neg h4]
        exact k0 (Or.inr (Or.inr h4))
theorem m2_symbol {c a : Int32} (h : RP m u b Lc Tc o σ) (k0 : (r_symbolOf σ c < 0 ∨ a < -1 ∨ ¬ a ≤ 2) → Q (some (.inl 0)) σ) (k1 : ∀ j, j < 8 → r_symbolOf σ c = nI j → arok a → ∀ τ, RP 0 u b Lc Tc none τ → (∀ z, z < 50 → τ z = σ z) → τ 51 = upd (σ 51) j a → τ 60 = σ 60 → Q (some (.inl 1)) τ) : evm mX8_symbol [.inr (.inr 50), .inl c, .inl a] σ Q := by
  obtain ⟨hA, hC, hB, hO⟩ := id h
  refine s_X8_symbol_0 (x_symbolOf σ c ⟨_, rfl, fun h1 => k0 (Or.inl h1), fun h1 => ⟨fun h2 => k0 (Or.inr (Or.inl h2)), fun h2 => ⟨fun h3 => ?_, fun h3 => k0 (Or.inr (Or.inr h3))⟩⟩⟩)
  rcases sy_rel σ σ c with ⟨q1, _⟩ | ⟨j, hj, e1, _⟩
  · exact absurd q1 h1
  · rw [e1, nI_clamp (by omega)]
    have ha := arok_of h2 h3
    have g : ∀ z, z ≠ 50 → z ≠ 51 → (ab_upd (ab_upd (ab_upd σ 51 j a) 50 5 0) 50 12 0) z = σ z := fun z z0 z1 => by rw [ab_upd_off _ _ z0, ab_upd_off _ _ z0, ab_upd_off _ _ z1]
    have g0 : ∀ t, t ≠ 5 → t ≠ 12 → (ab_upd (ab_upd (ab_upd σ 51 j a) 50 5 0) 50 12 0) 50 t = σ 50 t := fun t t5 t12 => by rw [ab_upd_eq, if_neg (by omega), ab_upd_eq, if_neg (by omega), ab_upd_off _ _ (by decide)]
    refine ⟨in8 hj, k1 j hj e1 ha _ ⟨fun i hi => ?_, ⟨by omega, by rw [ab_upd_eq, if_neg (by decide), ab_upd_same]; rfl, fun i hi => by omega⟩, hB.mv (g0 2 (by decide) (by decide)) (g 52 (by decide) (by decide)), ab_upd_same _ _ _ _⟩ (fun z hz => g z (by omega) (by omega)) (by rw [ab_upd_off _ _ (by decide), ab_upd_off _ _ (by decide), ab_upd_cell]) (g 60 (by decide) (by decide))⟩
    rw [ab_upd_off _ _ (by decide), ab_upd_off _ _ (by decide), ab_upd_eq]
    split
    · exact ha
    · exact hA i hi
/-- type -/
theorem c2_type (w : Int64) (n : Int32) (h : CP m u b Lc Tc o σ) (kk : ∀ τ, (∀ z, 49 ≤ z → τ z = σ z) → τ 2 = σ 2 → ((∀ ap ρ, tyM w n u ap ρ = ρ) ∧ CP m u b Lc Tc o τ ∨ ∃ j, u + j ≤ 60 ∧ (∀ ap ρ, tyM w n u ap ρ = ap j ρ) ∧ CP m (u + j) (tyB w u j b) Lc Tc o τ) → Q (some (.inl (tyR w n u))) τ) : evm mX7_type [.inr (.inr 0), .inr (.inl w), .inl n] σ Q := by
  obtain ⟨hA, hC, hB, hCA, hO⟩ := id h
  have m8 := hC.1
  refine ty_class w n hB.2.1 hB.1 ?_
  rcases tyM_or w n u with e | ⟨j, hj, e⟩
  · rw [e]
    exact kk σ (fun _ _ => rfl) rfl (Or.inl ⟨e, h⟩)
  · rw [e]
    obtain ⟨a1, a2, a3⟩ := ap_c_ok w j u σ hB.2.1 hj
    refine kk _ (fun z hz => a2 z (by omega) (by omega)) (a2 2 (by decide) (by decide)) (Or.inr ⟨j, hj, e, h.mv (a2 2 (by decide) (by decide)) (by rw [a2 5 (by decide) (by decide)]) (fun z h1 h2 => a2 z (by omega) (by omega)) ⟨hj, a1, fun t ht => by rw [a3]; exact tyB_ok hB.2.2 t ht⟩ (by rw [a2 0 (by decide) (by decide)]) (by rw [a2 0 (by decide) (by decide)]) (fun z h1 _ _ => a2 z (by omega) (by omega)) (Or.inl (by rw [a2 45 (by decide) (by decide)]))⟩)
theorem m2_type (w : Int64) (n : Int32) (h : RP m u b Lc Tc o σ) (kk : ∀ τ, (∀ z, z < 50 → τ z = σ z) → τ 51 = σ 51 → τ 60 = σ 60 → ((∀ ap ρ, tyM w n u ap ρ = ρ) → RP m u b Lc Tc o τ) → (∀ j, u + j ≤ 60 → (∀ ap ρ, tyM w n u ap ρ = ap j ρ) → RP m (u + j) (tyB w u j b) Lc Tc o τ) → Q (some (.inl (tyR w n u))) τ) : evm mX8_type [.inr (.inr 50), .inr (.inl w), .inl n] σ Q := by
  obtain ⟨hA, hC, hB, hO⟩ := id h
  have m8 := hC.1
  have up : ∀ j, u + j ≤ 60 → RP m (u + j) (tyB w u j b) Lc Tc o (ap_m w j σ) ∧ (∀ z, z < 50 → ap_m w j σ z = σ z) ∧ ap_m w j σ 51 = σ 51 ∧ ap_m w j σ 60 = σ 60 := by
    intro j hj
    obtain ⟨a1, a2, a3, a4⟩ := ap_m_ok w j u σ hB.2.1 hj
    exact ⟨h.mv (a2 51 (by decide) (by decide)) (fun i _ => by rw [a2 54 (by decide) (by decide)]) (fun z _ => by rw [a2 53 (by decide) (by decide)]) ⟨hj, a1, fun t ht => by rw [a3]; exact tyB_ok hB.2.2 t ht⟩ (fun t ht => a4 t (by omega)) (fun z h1 _ => a2 z (by omega) (by omega)), fun z hz => a2 z (by omega) (by omega), a2 51 (by decide) (by decide), a2 60 (by decide) (by decide)⟩
  refine ty_model w n hB.2.1 hB.1 (kk _ ?_ ?_ ?_ (fun e => by rw [e]; exact h) (fun j hj e => by rw [e]; exact (up j hj).1))
  · rcases tyM_or w n u with e | ⟨j, hj, e⟩
    · rw [e]; exact fun _ _ => rfl
    · rw [e]; exact (up j hj).2.1
  · rcases tyM_or w n u with e | ⟨j, hj, e⟩
    · rw [e]
    · rw [e]; exact (up j hj).2.2.1
  · rcases tyM_or w n u with e | ⟨j, hj, e⟩
    · rw [e]
    · rw [e]; exact (up j hj).2.2.2
end SY2
/-! check: the first broken choice of numbers -/
def gbk (ar : Nat → Int32) (V T : Nat → Nat) (L n k : Nat) : Bool := (lk V ar T (nm (kx (chz T L 1 n) (chz T L 2 n) k) (ky (chz T L 1 n) (chz T L 2 n) k) (kz (chz T L 2 n) k)) L [] false).1
section HS
variable {σ : ab_M} {Q : Option ab_V → ab_M → Prop}
theorem hs_g {V T : Nat → Nat} {L n : Nat} (hL : L ≤ 60) (hK : Kp 34 T L σ) (hT : ∀ t, t < L → T t < 256) (har : ∀ j, j < 8 → arok (σ 2 j)) (hau : aur (σ 2) T L 0 (-2) = none) (hV : VVc V σ) (h8 : σ 0 8 = nI n) (n1 : 1 ≤ n) (n4 : n ≤ 4)
    (k0 : ∀ τ, fL σ τ → (∀ k, k < chz T L 0 n * chz T L 1 n * chz T L 2 n → gbk (σ 2) V T L n k = false) → Q (some (.inl 1)) τ)
    (k1 : ∀ τ, (∀ z, (z < 42 ∨ 45 ≤ z) → z ≠ 49 → τ z = σ z) → ∀ k, k < chz T L 0 n * chz T L 1 n * chz T L 2 n → gbk (σ 2) V T L n k = true → (∀ j, j < k → gbk (σ 2) V T L n j = false) → (∀ v, v < 3 → τ 49 v = nI (nm (kx (chz T L 1 n) (chz T L 2 n) k) (ky (chz T L 1 n) (chz T L 2 n) k) (kz (chz T L 2 n) k) v)) → Q (some (.inl 0)) τ) : evm mX7_holdsInStructure [.inr (.inr 0)] σ Q := by
  have hc : Cl 34 := ⟨9, by omega, rfl⟩
  have X4 : chz T L 0 n ≤ 4 := Nat.le_trans (chz_le n1) n4
  have Y4 : chz T L 1 n ≤ 4 := Nat.le_trans (chz_le n1) n4
  have Z4 : chz T L 2 n ≤ 4 := Nat.le_trans (chz_le n1) n4
  have ch : ∀ {τ : ab_M} {R : Option ab_V → ab_M → Prop} (v : Nat), v < 3 → fL σ τ → R (some (.inl (nI (chz T L v n)))) τ → evm mX1_choices [.inr (.inr 34), .inl (nI v), .inl (τ 0 8)] τ R := by
    intro τ R v hv f1 r
    rw [f1 0 (by omega), h8]
    exact ch_f hc hv (hK.mv (fun z h1 h2 => f1 z (by omega))) r
  have look : ∀ {τ : ab_M} {R : Option ab_V → ab_M → Prop} (x y z : Nat), x < 4 → y < 4 → z < 4 → fL σ τ → (∀ υ, fL σ υ → R (some (.inl (bI (lk V (σ 2) T (nm x y z) L [] false).1))) υ) → evm mX3_isBroken [.inr (.inr 42), .inr (.inr 34), .inl (nI x), .inl (nI y), .inl (nI z)] τ R := by
    intro τ R x y z hx hy hz f1 r
    have e2 : τ 2 = σ 2 := f1 2 (by omega)
    refine ib_f (V := V) hc hL (hK.mv (fun z h1 h2 => f1 z (by omega))) hT (by rw [e2]; exact har) (by rw [e2]; exact hau) (hV.mv (f1 38 (by omega))) hx hy hz (fun υ fu _ _ => ?_)
    rw [e2]
    exact r υ (f1.tr fu)
  have at0 : ∀ x y z, x < chz T L 0 n → y < chz T L 1 n → z < chz T L 2 n → ((x * chz T L 1 n + y) * chz T L 2 n + z < chz T L 0 n * chz T L 1 n * chz T L 2 n ∧ kx (chz T L 1 n) (chz T L 2 n) ((x * chz T L 1 n + y) * chz T L 2 n + z) = x ∧ ky (chz T L 1 n) (chz T L 2 n) ((x * chz T L 1 n + y) * chz T L 2 n + z) = y ∧ kz (chz T L 2 n) ((x * chz T L 1 n + y) * chz T L 2 n + z) = z) := fun x y z hx hy hz => of_decide_eq_true (dy _ (by omega) _ (by omega) _ (by omega) x (by omega) y (by omega) z (by omega)) ⟨hx, hy, hz⟩
  have gk : ∀ k, gbk (σ 2) V T L n k = (lk V (σ 2) T (nm (kx (chz T L 1 n) (chz T L 2 n) k) (ky (chz T L 1 n) (chz T L 2 n) k) (kz (chz T L 2 n) k)) L [] false).1 := fun _ => rfl
  have ch0 : ∀ {τ : ab_M} {R : Option ab_V → ab_M → Prop}, fL σ τ → R (some (.inl (nI (chz T L 0 n)))) τ → evm mX1_choices [.inr (.inr 34), .inl 0, .inl (τ 0 8)] τ R := fun f r => ch 0 (by decide) f r
  have ch1 : ∀ {τ : ab_M} {R : Option ab_V → ab_M → Prop}, fL σ τ → R (some (.inl (nI (chz T L 1 n)))) τ → evm mX1_choices [.inr (.inr 34), .inl 1, .inl (τ 0 8)] τ R := fun f r => ch 1 (by decide) f r
  have ch2 : ∀ {τ : ab_M} {R : Option ab_V → ab_M → Prop}, fL σ τ → R (some (.inl (nI (chz T L 2 n)))) τ → evm mX1_choices [.inr (.inr 34), .inl 2, .inl (τ 0 8)] τ R := fun f r => ch 2 (by decide) f r
  clear ch hK hau hV h8
  generalize gbk (σ 2) V T L n = G at k0 k1 gk
  generalize chz T L 0 n = X at k0 k1 at0 X4 ch0
  generalize chz T L 1 n = Y at k0 k1 at0 gk Y4 ch1
  generalize chz T L 2 n = Z at k0 k1 at0 gk Z4 ch2
  have xl : ∀ (d a : Nat) (τ : ab_M) (o2 o3 : Option ab_V), a + d = X → fL σ τ → (∀ j, j < a * Y * Z → G j = false) → ev mX7_holdsInStructure 2 [some (.inr (.inr 0)), some (.inl (nI a)), o2, o3] [] τ Q := by
    intro d
    induction d with
    | zero =>
      intro a τ o2 o3 ha f1 hj
      have ea : a = X := by omega
      rw [ea] at hj
      exact s_X7_holdsInStructure_2 (ch0 f1 ⟨_, rfl, fun _ => k0 τ f1 hj, fun h => absurd (nI_le (by omega) (by omega)) h⟩)
    | succ d ihx =>
      intro a τ o2 o3 ha f1 hj
      refine s_X7_holdsInStructure_2 (ch0 f1 ⟨_, rfl, fun h => absurd ((nI_leI (by omega) (by omega)).mp h) (by omega), fun _ => ?_⟩)
      have yl : ∀ (e c : Nat) (τ : ab_M) (o3 : Option ab_V), c + e = Y → fL σ τ → (∀ j, j < (a * Y + c) * Z → G j = false) → ev mX7_holdsInStructure 20 [some (.inr (.inr 0)), some (.inl (nI a)), some (.inl (nI c)), o3] [] τ Q := by
        intro e
        induction e with
        | zero =>
          intro c τ o3 hc2 f1 hj
          have ec : c = Y := by omega
          refine s_X7_holdsInStructure_20 (ch1 f1 ⟨_, rfl, fun _ => ?_, fun h => absurd (nI_le (by omega) (by omega)) h⟩)
          rw [nI_1]
          refine ihx (a + 1) τ _ _ (by omega) f1 (fun j h => hj j ?_)
          rw [ec, ← Nat.succ_mul]
          exact h
        | succ e ihy =>
          intro c τ o3 hc2 f1 hj
          refine s_X7_holdsInStructure_20 (ch1 f1 ⟨_, rfl, fun h => absurd ((nI_leI (by omega) (by omega)).mp h) (by omega), fun _ => ?_⟩)
          have zl : ∀ (g z : Nat) (τ : ab_M), z + g = Z → fL σ τ → (∀ j, j < (a * Y + c) * Z + z → G j = false) → ev mX7_holdsInStructure 38 [some (.inr (.inr 0)), some (.inl (nI a)), some (.inl (nI c)), some (.inl (nI z))] [] τ Q := by
            intro g
            induction g with
            | zero =>
              intro z τ hz f1 hj
              have ez : z = Z := by omega
              refine s_X7_holdsInStructure_38 (ch2 f1 ⟨_, rfl, fun _ => ?_, fun h => absurd (nI_le (by omega) (by omega)) h⟩)
              rw [nI_1]
              refine ihy (c + 1) τ _ (by omega) f1 (fun j h => hj j ?_)
              rw [ez, ← Nat.succ_mul]
              exact h
            | succ g ihz =>
              intro z τ hz f1 hj
              obtain ⟨p1, p2, p3, p4⟩ := at0 a c z (by omega) (by omega) (by omega)
              refine s_X7_holdsInStructure_38 (ch2 f1 ⟨_, rfl, fun h => absurd ((nI_leI (by omega) (by omega)).mp h) (by omega), fun _ => look a c z (by omega) (by omega) (by omega) f1 (fun υ fu => ⟨_, rfl, ?_⟩)⟩)
              have gz := gk ((a * Y + c) * Z + z)
              rw [p2, p3, p4] at gz
              rw [← gz]
              cases hg : G ((a * Y + c) * Z + z) with
              | false =>
                refine ⟨fun _ => ?_, fun q => absurd rfl q⟩
                rw [nI_1]
                refine ihz (z + 1) υ (by omega) fu (fun j h => ?_)
                by_cases ej : j = (a * Y + c) * Z + z
                · rw [ej]; exact hg
                · exact hj j (by omega)
              | true =>
                refine ⟨fun q => absurd q (by decide), fun _ => ⟨by decide, by decide, by decide, ?_⟩⟩
                refine k1 _ (fun w hw h49 => ?_) _ p1 hg hj (fun v hv => ?_)
                · rw [ab_upd_off _ _ h49, ab_upd_off _ _ h49, ab_upd_off _ _ h49]
                  exact fu w hw
                · rw [p2, p3, p4]
                  have v3 : v = 0 ∨ v = 1 ∨ v = 2 := by omega
                  rcases v3 with rfl | rfl | rfl
                  · rw [ab_upd_eq, if_neg (by decide), ab_upd_eq, if_neg (by decide), ab_upd_eq, if_pos (by decide)]; rfl
                  · rw [ab_upd_eq, if_neg (by decide), ab_upd_eq, if_pos (by decide)]; rfl
                  · rw [ab_upd_eq, if_pos (by decide)]; rfl
          exact zl Z 0 τ (by omega) f1 hj
      exact yl Y 0 τ _ (by omega) f1 (by rw [Nat.add_zero]; exact hj)
  exact s_X7_holdsInStructure_0 (xl X 0 σ _ _ (by omega) fL.rf (fun j h => by rw [Nat.zero_mul, Nat.zero_mul] at h; omega))
end HS

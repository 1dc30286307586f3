section MM
variable {σ : ab_M} {Q : Option ab_V → ab_M → Prop}
theorem m_more {m n t : Nat} {Lc : Nat → Nat} {Tc : Nat → Nat → Nat} {V : Nat → Nat} (n1 : 1 ≤ n) (n4 : n ≤ 4) (hA : AR σ) (hT : RT m Lc Tc σ) (h12 : σ 50 12 = 1) (h13 : σ 50 13 = 1) (hO : OR n (od (σ 51) n) (OL (σ 51) n).length σ) (hS : RSr (σ 51) (od (σ 51) n) (OL (σ 51) n).length n Lc Tc m ((OL (σ 51) n).length + 1) t V σ)
    (k1 : (msp (σ 51) Lc Tc m n V).1 = 1 → ∀ τ, τ 50 12 = 1 → τ 50 13 = 1 → OR n (od (σ 51) n) (OL (σ 51) n).length τ → RSr (σ 51) (od (σ 51) n) (OL (σ 51) n).length n Lc Tc m ((OL (σ 51) n).length + 1) (msp (σ 51) Lc Tc m n V).2.2.1 (msp (σ 51) Lc Tc m n V).2.2.2 τ → fV σ τ → Q (some (.inl 1)) τ)
    (k0 : ¬ (msp (σ 51) Lc Tc m n V).1 = 1 → ∀ τ, τ 50 12 = 0 → fV σ τ → Q (some (.inl (msp (σ 51) Lc Tc m n V).1)) τ) : evm mX8_more [.inr (.inr 50)] σ Q := by
  refine s_X8_more_0 ⟨fun q => absurd (h12.symm.trans q) (by decide), fun _ => ⟨fun q => absurd (h13.symm.trans q) (by decide), fun _ => ?_⟩⟩
  have g50 : ∀ z, z ≠ 50 → (ab_upd σ 50 14 0) z = σ z := fun z hz => ab_upd_off _ _ hz
  have g14 : ∀ t, t ≠ 14 → (ab_upd σ 50 14 0) 50 t = σ 50 t := fun t ht => by rw [ab_upd_eq, if_neg (by omega)]
  have v14 : (ab_upd σ 50 14 0) 50 14 = 0 := ab_upd_same _ _ _ _
  have f0 : fV σ (ab_upd σ 50 14 0) := fV.rf.u50 (by decide)
  generalize ab_upd σ 50 14 0 = υ at g50 g14 v14 f0 ⊢
  have a2 : υ 51 = σ 51 := g50 51 (by decide)
  have orr : OR n (od (σ 51) n) (OL (σ 51) n).length υ := hO.mv (g14 7 (by decide)) (g14 8 (by decide)) (fun z hz => g50 z (by omega))
  obtain ⟨s1, s2, s3, s4, s5, s6⟩ := hS
  have rs0 : RSr (σ 51) (od (σ 51) n) (OL (σ 51) n).length n Lc Tc m (OL (σ 51) n).length 0 V υ := ⟨fun k hk => by rw [g50 55 (by decide)]; exact s1 k hk, ⟨fun k hk h => s2.1 k hk (by omega), fun k hk h => by omega, s2.2.2.1, s2.2.2.2⟩, fun k hk => s3 k (by omega), by rw [v14]; rfl, by omega, by omega⟩
  rw [orr.2.1]
  have wk := wk_f (σ := υ) (Q := fun v τ1 => ∃ r2 : Int32, v = some (.inl r2) ∧ ((r2 = 1 → Q (some (.inl r2)) (ab_upd τ1 50 12 1)) ∧ (¬ r2 = 1 → Q (some (.inl r2)) (ab_upd τ1 50 12 0)))) (Lc := Lc) (Tc := Tc) (m := m) (n := n) (ord := od (σ 51) n) (c := (OL (σ 51) n).length) (by rw [a2]; exact hT.tx hA) n1 n4 (by rw [a2]; exact OL_OK n4) orr (hT.mw f0) 700000 (OL (σ 51) n).length 0 V υ (dn (OL (σ 51) n).length) none (by have := OL_len (ar := σ 51) n4; omega)
  have e : wsp (σ 51) (od (σ 51) n) (OL (σ 51) n).length n Lc Tc m 700000 (OL (σ 51) n).length 0 V = msp (σ 51) Lc Tc m n V := rfl
  rw [a2, e] at wk
  have wr := wsp_res (ar := σ 51) (ord := od (σ 51) n) (c := (OL (σ 51) n).length) (n := n) (Lc := Lc) (Tc := Tc) (m := m) 700000 (OL (σ 51) n).length 0 V
  rw [e] at wr
  refine s_X8_walk_0 (wk rs0 fX.rf (fun ρ fr rs => ⟨_, rfl, fun q => ?_, fun q => ?_⟩))
  · have pc : (msp (σ 51) Lc Tc m n V).2.1 = (OL (σ 51) n).length + 1 := by
      rcases wr with x | x | x
      · rw [q] at x; exact absurd x (by decide)
      · rw [q] at x; exact absurd x (by decide)
      · exact Nat.le_antisymm rs.2.2.2.2.2 x.2
    rw [pc] at rs
    rw [q]
    refine k1 q _ (ab_upd_same _ _ _ _) ?_ ((orr.mv (fr.2 7 (by decide) (by decide)) (fr.2 8 (by decide) (by decide)) (fun z hz => fr.1 z (by omega) (by omega) (by omega) (by omega))).u50 (by decide) (by decide)) (rs.u50 (by decide)) ((f0.tr fr.v).u50 (by decide))
    rw [ab_upd_eq, if_neg (by decide), fr.2 13 (by decide) (by decide), g14 13 (by decide)]
    exact h13
  · exact k0 q _ (ab_upd_same _ _ _ _) ((f0.tr fr.v).u50 (by decide))
end MM

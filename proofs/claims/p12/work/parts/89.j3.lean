/-! more -/
section MO
variable {σ : ab_M} {Q : Option ab_V → ab_M → Prop}
/-- what more answers, and what it leaves -/
def msp (ar : Nat → Int32) (Lc : Nat → Nat) (Tc : Nat → Nat → Nat) (m a : Nat) (V : Nat → Nat) : Int32 × Nat × Nat × (Nat → Nat) := wsp ar (od ar a) (OL ar a).length a Lc Tc m 700000 (OL ar a).length 0 V
theorem CS.dwn {ar : Nat → Int32} {ord : Nat → Nat} {c n : Nat} {Lc : Nat → Nat} {Tc : Nat → Nat → Nat} {m t : Nat} {V : Nat → Nat} {τ : ab_M} (h : CS ar ord c n Lc Tc m (c + 1) t V σ) (f : ∀ z, z ≠ 45 → τ z = σ z) (h6 : τ 45 6 = 0) : CS ar ord c n Lc Tc m c 0 V τ := by
  obtain ⟨a1, a2, a3, a4, a5, a6, a7, a8⟩ := h
  refine ⟨fun k hk => by rw [f 38 (by decide)]; exact a1 k hk, ⟨fun k hk h => a2.1 k hk (by omega), fun k hk h => by omega, a2.2.2.1, a2.2.2.2⟩, a3.mv (f 46 (by decide)) (f 47 (by decide)), fun h => ?_, fun k hk => by rw [f 48 (by decide)]; exact a5 k (by omega), by rw [h6]; rfl, by omega, by omega⟩
  exact (JP_down (s := c - 1) (a4 (by omega)) (by omega) (fun _ _ _ => rfl)).mv (f 46 (by decide)) (f 47 (by decide))
theorem c_more {m n t : Nat} {Lc : Nat → Nat} {Tc : Nat → Nat → Nat} {V : Nat → Nat} (n1 : 1 ≤ n) (n4 : n ≤ 4) (har : ∀ j, j < 8 → arok (σ 2 j)) (hT : CT m Lc Tc σ) (h8 : σ 0 8 = nI n) (h9 : σ 0 9 = 0) (hO : OC n (od (σ 2) n) (OL (σ 2) n).length σ) (h41 : ∀ k, k < (OL (σ 2) n).length → σ 41 k = dn (gaC (σ 2) (od (σ 2) n k))) (hS : CS (σ 2) (od (σ 2) n) (OL (σ 2) n).length n Lc Tc m ((OL (σ 2) n).length + 1) t V σ)
    (k1 : (msp (σ 2) Lc Tc m n V).1 = 1 → ∀ τ, τ 0 8 = nI n → τ 0 9 = 0 → OC n (od (σ 2) n) (OL (σ 2) n).length τ → (∀ k, k < (OL (σ 2) n).length → τ 41 k = dn (gaC (σ 2) (od (σ 2) n k))) → CS (σ 2) (od (σ 2) n) (OL (σ 2) n).length n Lc Tc m ((OL (σ 2) n).length + 1) (msp (σ 2) Lc Tc m n V).2.2.1 (msp (σ 2) Lc Tc m n V).2.2.2 τ → fD σ τ → Q (some (.inl 1)) τ)
    (k0 : ¬ (msp (σ 2) Lc Tc m n V).1 = 1 → ∀ τ, τ 0 8 = 0 → CA τ → fD σ τ → Q (some (.inl (msp (σ 2) Lc Tc m n V).1)) τ) : evm mX7_more [.inr (.inr 0)] σ Q := by
  have g45 : ∀ z, z ≠ 45 → (ab_upd σ 45 6 0) z = σ z := fun z hz => ab_upd_off _ _ hz
  have v6 : (ab_upd σ 45 6 0) 45 6 = 0 := ab_upd_same _ _ _ _
  have f0 : fD σ (ab_upd σ 45 6 0) := fD.of (fS.rf.up (by omega))
  refine s_X7_more_0 (s_X4_countAnew_0 ⟨rfl, fun q => ?_, fun _ => ⟨fun _ => ?_, fun q => ?_⟩⟩)
  · rw [g45 0 (by decide), h8] at q
    exact absurd q (nI_ne0 n1 (by omega))
  · generalize ab_upd σ 45 6 0 = υ at g45 v6 f0 ⊢
    have a2 : υ 2 = σ 2 := g45 2 (by decide)
    have oc : OC n (od (σ 2) n) (OL (σ 2) n).length υ := hO.mv (fun z hz => g45 z (by omega))
    have o41 : ∀ k, k < (OL (σ 2) n).length → υ 41 k = dn (gaC (σ 2) (od (σ 2) n k)) := fun k hk => by rw [g45 41 (by decide)]; exact h41 k hk
    have cs := hS.dwn g45 v6
    refine s_X4_goOn_0 (s_X6_count_0 ⟨_, rfl, ?_⟩)
    rw [oc.2.1]
    have fl := fill_f (σ := υ) (Q := fun v τ3 => ∃ r4 : Int32, v = some (.inl r4) ∧ (∃ r2 : Int32, (some (.inl r4) : Option ab_V) = some (.inl r2) ∧ ((r2 = 1 → Q (some (.inl r2)) τ3) ∧ (¬ r2 = 1 → Q (some (.inl r2)) (ab_upd τ3 0 8 0))))) (Lc := Lc) (Tc := Tc) (m := m) (n := n) (ord := od (σ 2) n) (c := (OL (σ 2) n).length) (by rw [a2]; exact har) n1 n4 (by rw [a2]; exact OL_OK n4) oc (by rw [a2]; exact o41) (hT.mv (fun z hz => g45 z (by omega))) 700000 (OL (σ 2) n).length 0 V υ (dn (OL (σ 2) n).length) 0 none (by have := OL_len (ar := σ 2) n4; omega) (by omega)
    have e : wsp (σ 2) (od (σ 2) n) (OL (σ 2) n).length n Lc Tc m 700000 (OL (σ 2) n).length 0 V = msp (σ 2) Lc Tc m n V := rfl
    rw [a2, e] at fl
    have wr := wsp_res (ar := σ 2) (ord := od (σ 2) n) (c := (OL (σ 2) n).length) (n := n) (Lc := Lc) (Tc := Tc) (m := m) 700000 (OL (σ 2) n).length 0 V
    rw [e] at wr
    refine s_X4_fill_0 (fl cs fW.rf (fun ρ fr rs => ⟨_, rfl, _, rfl, fun q => ?_, fun q => ?_⟩))
    · have fd : fD σ ρ := f0.tr (fD.of (fun z hz => fr z (by omega) (by omega)))
      have pc : (msp (σ 2) Lc Tc m n V).2.1 = (OL (σ 2) n).length + 1 := by
        rcases wr with x | x | x
        · rw [q] at x; exact absurd x (by decide)
        · rw [q] at x; exact absurd x (by decide)
        · exact Nat.le_antisymm rs.2.2.2.2.2.2.2 x.2
      rw [pc] at rs
      rw [q]
      refine k1 q ρ ?_ ?_ (oc.mv (fun z hz => fr z (by omega) (by omega))) (fun k hk => by rw [fr 41 (by decide) (by omega)]; exact o41 k hk) rs fd
      · rw [fr 0 (by decide) (by omega), g45 0 (by decide)]; exact h8
      · rw [fr 0 (by decide) (by omega), g45 0 (by decide)]; exact h9
    · have fd : fD σ ρ := f0.tr (fD.of (fun z hz => fr z (by omega) (by omega)))
      exact k0 q _ (ab_upd_same _ _ _ _) (rs.2.2.1.mv (ab_upd_off _ _ (by decide)) (ab_upd_off _ _ (by decide))) (fd.up (Or.inl rfl))
  · rw [g45 0 (by decide)] at q
    exact absurd h9 q
end MO

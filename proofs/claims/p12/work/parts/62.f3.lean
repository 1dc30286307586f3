/-! the reference's reader; clause, drop, clauses of both sides -/
def Bm (σ : ab_M) (u : Nat) (b : Nat → Nat) : Prop := u ≤ 60 ∧ σ 50 2 = nI u ∧ ∀ t, t < u → σ 52 t = nI (b t) ∧ b t < 256
theorem sy_p : ∀ b, b < 256 → (80 ≤ b ∧ b ≤ 83) → sy b = b - 76 ∧ 4 ≤ sy b ∧ sy b < 8 := by decide +kernel
theorem sy_np : ∀ b, b < 256 → ¬ (80 ≤ b ∧ b ≤ 83) → sy b < 4 ∨ sy b = 8 := by decide +kernel
theorem sy_f : ∀ b, b < 256 → (97 ≤ b ∧ b ≤ 100) → sy b = b - 97 ∧ sy b < 4 := by decide +kernel
theorem sy_nf : ∀ b, b < 256 → ¬ (97 ≤ b ∧ b ≤ 100) → 4 ≤ sy b := by decide +kernel
theorem in8 {j : Nat} (h : j < 8) : ab_in (nI j) 8 = true := ab_in_of (by rw [nI_toInt (by omega)]; omega) (by rw [nI_toInt (by omega)]; omega)
theorem inN {j n : Nat} (h : j < n) (hn : n < 2 ^ 31) : ab_in (nI j) n = true := ab_in_of (by rw [nI_toInt (by omega)]; omega) (by rw [nI_toInt (by omega)]; omega)
section WR
variable {σ : ab_M} {Q : Option ab_V → ab_M → Prop} {b : Nat}
theorem aW_ok (hb : b < 256) (k : Q (some (.inl (aw (σ 51) b))) σ) : evm mX8_atomWants [.inr (.inr 50), .inl (nI b)] σ Q := by
  unfold aw at k
  refine s_X8_atomWants_0 ⟨fun h => ?_, fun h => ?_⟩
  · have e : b = 61 := (nI_eq (b := 61) (by omega) (by decide)).mp h
    rw [if_pos e] at k
    exact k
  · have e : ¬ b = 61 := fun q => h (by rw [q]; rfl)
    rw [if_neg e] at k
    refine x_symbolOf σ (nI b) ⟨_, rfl, ?_⟩
    rw [sy_ok σ b hb]
    by_cases hp : 80 ≤ b ∧ b ≤ 83
    · obtain ⟨e1, e2, e3⟩ := sy_p b hb hp
      rw [if_pos hp] at k
      rw [if_pos e3]
      refine ⟨fun h2 => ?_, fun _ => ⟨in8 e3, ?_⟩⟩
      · have := (nI_ltI (b := 4) (by omega) (by decide)).mp h2
        omega
      · rw [nI_clamp (by omega), e1]
        exact k
    · rw [if_neg hp] at k
      refine ⟨fun _ => k, fun h2 => ?_⟩
      exfalso
      rcases sy_np b hb hp with e1 | e1
      · rw [if_pos (by omega)] at h2
        exact h2 ((nI_ltI (b := 4) (by omega) (by decide)).mpr e1)
      · rw [if_neg (by omega)] at h2
        exact h2 (by decide)
theorem tW_ok (hb : b < 256) (k : Q (some (.inl (tw (σ 51) b))) σ) : evm mX8_termWants [.inr (.inr 50), .inl (nI b)] σ Q := by
  unfold tw at k
  have sub : ¬ (120 ≤ b ∧ b ≤ 122) → evm mX8_symbolOf [.inl (nI b)] σ (fun v τ1 => ∃ r2 : Int32, v = some (.inl r2) ∧ ((r2 < 0 → Q (some (.inl (-1))) τ1) ∧ (¬ r2 < 0 → ((4 ≤ r2 → Q (some (.inl (-1))) τ1) ∧ (¬ 4 ≤ r2 → ab_in r2 8 = true ∧ Q (some (.inl (τ1 51 r2.toNatClampNeg))) τ1))))) := by
    intro hv
    rw [if_neg hv] at k
    refine x_symbolOf σ (nI b) ⟨_, rfl, ?_⟩
    rw [sy_ok σ b hb]
    by_cases hf : 97 ≤ b ∧ b ≤ 100
    · obtain ⟨e1, e2⟩ := sy_f b hb hf
      rw [if_pos hf] at k
      rw [if_pos (by omega)]
      refine ⟨fun h2 => absurd h2 (nI_pos (by omega)), fun _ => ⟨fun h2 => absurd h2 (nI_ge (b := 4) e2 (by decide)), fun _ => ⟨in8 (by omega), ?_⟩⟩⟩
      rw [nI_clamp (by omega), e1]
      exact k
    · rw [if_neg hf] at k
      have e1 := sy_nf b hb hf
      by_cases h8 : sy b < 8
      · rw [if_pos h8]
        exact ⟨fun _ => k, fun _ => ⟨fun _ => k, fun h2 => absurd (nI_le (a := 4) e1 (by omega)) h2⟩⟩
      · rw [if_neg h8]
        exact ⟨fun _ => k, fun h2 => absurd (by decide) h2⟩
  refine s_X8_termWants_0 ⟨fun h => sub (fun q => ?_), fun h => ⟨fun h2 => sub (fun q => ?_), fun h2 => ?_⟩⟩
  · have := (nI_ltI (b := 120) (by omega) (by decide)).mp h
    omega
  · have := (nI_ltI (a := 122) (by decide) (by omega)).mp h2
    omega
  · have e1 : ¬ b < 120 := fun q => h ((nI_ltI (b := 120) (by omega) (by decide)).mpr q)
    have e2 : ¬ 122 < b := fun q => h2 ((nI_ltI (a := 122) (by decide) (by omega)).mpr q)
    rw [if_pos (by omega)] at k
    exact k
end WR
theorem wr_ok {σ : ab_M} {Q : Option ab_V → ab_M → Prop} {u : Nat} {b : Nat → Nat} (hB : Bm σ u b) (har : ∀ j, j < 8 → arok (σ 51 j)) (k : Q (some (.inl (rdR (aur (σ 51) b u 0 (-2))))) σ) : evm mX8_wrong [.inr (.inr 50)] σ Q := by
  obtain ⟨hu, h2, h3⟩ := hB
  have loop : ∀ (d p : Nat) (s : Int32) (o3 o4 : Option ab_V), p + d = u → sok p s → aur (σ 51) b d p s = aur (σ 51) b u 0 (-2) → ev mX8_wrong 5 [some (.inr (.inr 50)), some (.inl s), some (.inl (nI p)), o3, o4] [] σ Q := by
    intro d
    induction d with
    | zero =>
      intro p s o3 o4 hp hs he
      have hpu : p = u := by omega
      subst hpu
      refine s_X8_wrong_5 ⟨fun _ => ⟨fun h => ?_, fun h => ?_⟩, fun h => absurd (by rw [h2]; exact nI_le (Nat.le_refl _) (by omega)) h⟩
      · have e0 : aur (σ 51) b 0 p s = none := by
          unfold aur
          rw [if_pos h]
        rw [← he, e0] at k
        exact k
      · have e0 : aur (σ 51) b 0 p s = some p := by
          unfold aur
          rw [if_neg h]
        rw [← he, e0] at k
        rw [h2]
        exact k
    | succ d ih =>
      intro p s o3 o4 hp hs he
      have hb := (h3 p (by omega)).2
      have hbp := (h3 p (by omega)).1
      have ec : (nI p).toNatClampNeg = p := nI_clamp (by omega)
      have stop : au (σ 51) s (b p) = none → Q (some (.inl (nI p))) σ := by
        intro ha
        have e0 : aur (σ 51) b (d + 1) p s = some p := by
          unfold aur
          rw [ha]
        rw [← he, e0] at k
        exact k
      have go : ∀ (s' : Int32) (o3 o4 : Option ab_V), au (σ 51) s (b p) = some s' → ev mX8_wrong 5 [some (.inr (.inr 50)), some (.inl s'), some (.inl (nI p + 1)), o3, o4] [] σ Q := by
        intro s' o3 o4 ha
        rw [nI_1]
        refine ih (p + 1) s' _ _ (by omega) (au_sok har (by omega) hs ha) ?_
        rw [← he]
        show _ = (match au (σ 51) s (b p) with
          | none => some p
          | some s' => aur (σ 51) b d (p + 1) s')
        rw [ha]
      have h0 : ∀ c : Nat, c < 256 → (σ 52 (nI p).toNatClampNeg = nI c ↔ b p = c) := by
        intro c hc
        rw [ec, hbp]
        exact nI_eq (by omega) (by omega)
      have hatom : ¬ s = 0 → ¬ (s = -2 ∧ b p = 33) → s < 0 → evm mX8_atomWants [.inr (.inr 50), .inl (σ 52 (nI p).toNatClampNeg)] σ (fun v τ1 => ∃ r2 : Int32, v = some (.inl r2) ∧ ((0 ≤ r2 → ((0 ≤ s → ev mX8_wrong 5 [some (.inr (.inr 50)), some (.inl ((s - 1) + r2)), some (.inl (nI p + 1)), some (.inl (σ 52 (nI p).toNatClampNeg)), some (.inl r2)] [] τ1 Q) ∧ (¬ 0 ≤ s → ev mX8_wrong 5 [some (.inr (.inr 50)), some (.inl r2), some (.inl (nI p + 1)), some (.inl (σ 52 (nI p).toNatClampNeg)), some (.inl r2)] [] τ1 Q))) ∧ (¬ 0 ≤ r2 → Q (some (.inl (nI p))) τ1))) := by
        intro n0 n1 n2
        rw [ec, hbp]
        refine aW_ok hb ⟨_, rfl, fun h => ⟨fun h4 => ?_, fun _ => ?_⟩, fun h => ?_⟩
        · exfalso
          rw [Int32.lt_iff_toInt_lt] at n2
          rw [Int32.le_iff_toInt_le] at h4
          omega
        · refine go _ _ _ ?_
          unfold au
          rw [if_neg n0, if_neg n1, if_pos n2, if_neg ?_]
          rw [Int32.lt_iff_toInt_lt]
          rw [Int32.le_iff_toInt_le] at h
          omega
        · refine stop ?_
          unfold au
          rw [if_neg n0, if_neg n1, if_pos n2, if_pos ?_]
          rw [Int32.lt_iff_toInt_lt]
          rw [Int32.le_iff_toInt_le] at h
          omega
      have hterm : ¬ s = 0 → ¬ (s = -2 ∧ b p = 33) → ¬ s < 0 → evm mX8_termWants [.inr (.inr 50), .inl (σ 52 (nI p).toNatClampNeg)] σ (fun v τ1 => ∃ r2 : Int32, v = some (.inl r2) ∧ ((0 ≤ r2 → ((0 ≤ s → ev mX8_wrong 5 [some (.inr (.inr 50)), some (.inl ((s - 1) + r2)), some (.inl (nI p + 1)), some (.inl (σ 52 (nI p).toNatClampNeg)), some (.inl r2)] [] τ1 Q) ∧ (¬ 0 ≤ s → ev mX8_wrong 5 [some (.inr (.inr 50)), some (.inl r2), some (.inl (nI p + 1)), some (.inl (σ 52 (nI p).toNatClampNeg)), some (.inl r2)] [] τ1 Q))) ∧ (¬ 0 ≤ r2 → Q (some (.inl (nI p))) τ1))) := by
        intro n0 n1 n2
        rw [ec, hbp]
        refine tW_ok hb ⟨_, rfl, fun h => ⟨fun _ => ?_, fun h4 => ?_⟩, fun h => ?_⟩
        · refine go _ _ _ ?_
          unfold au
          rw [if_neg n0, if_neg n1, if_neg n2, if_neg ?_]
          rw [Int32.lt_iff_toInt_lt]
          rw [Int32.le_iff_toInt_le] at h
          omega
        · exfalso
          rw [Int32.lt_iff_toInt_lt] at n2
          rw [Int32.le_iff_toInt_le] at h4
          omega
        · refine stop ?_
          unfold au
          rw [if_neg n0, if_neg n1, if_neg n2, if_pos ?_]
          rw [Int32.lt_iff_toInt_lt]
          rw [Int32.le_iff_toInt_le] at h
          omega
      have sgn : (0 ≤ s ↔ ¬ s < 0) := by
        rw [Int32.lt_iff_toInt_lt, Int32.le_iff_toInt_le]
        omega
      have hcont : ¬ s = 0 → ¬ (s = -2 ∧ b p = 33) → _ ∧ _ := fun n0 n1 => ⟨fun h4 : 0 ≤ s => hterm n0 n1 (sgn.mp h4), fun h4 : ¬ 0 ≤ s => hatom n0 n1 (Classical.not_not.mp (fun q => h4 (sgn.mpr q)))⟩
      refine s_X8_wrong_5 ⟨fun h => absurd (by rw [h2] at h; exact h) (nI_ge (by omega) (by omega)), fun _ => ⟨inN (by omega) (by decide), fun n0 => ⟨fun h => ?_, fun h => ?_⟩, fun n0 => ⟨fun n1 => ⟨fun h => ?_, fun h => ?_⟩, fun n1 => ?_⟩⟩⟩
      · refine go _ _ _ ?_
        unfold au
        rw [if_pos n0, if_pos ((h0 124 (by decide)).mp h)]
      · refine stop ?_
        unfold au
        rw [if_pos n0, if_neg (fun q => h ((h0 124 (by decide)).mpr q))]
      · refine go _ _ _ ?_
        unfold au
        rw [if_neg n0, if_pos ⟨n1, (h0 33 (by decide)).mp h⟩]
      · exact hcont n0 (fun q => h ((h0 33 (by decide)).mpr q.2))
      · exact hcont n0 (fun q => n1 q.1)
  exact s_X8_wrong_0 (loop u 0 (-2) none none (by omega) (Or.inl rfl) rfl)
/-- the reference keeps its text at a place -/
theorem kpm_ok {σ : ab_M} {Q : Option ab_V → ab_M → Prop} {u i : Nat} {b : Nat → Nat} (hB : Bm σ u b) (hi : i ≤ 8) (k : ∀ τ : ab_M, (∀ z, z ≠ 50 → z ≠ 53 → z ≠ 54 → τ z = σ z) → (∀ t, t ≠ 2 → τ 50 t = σ 50 t) → τ 50 2 = 0 → (∀ j, j ≠ i → τ 54 j = σ 54 j) → τ 54 i = nI u → (∀ t, t < u → τ 53 (60 * i + t) = nI (b t)) → (∀ z, (z < 60 * i ∨ 60 * i + 60 ≤ z) → τ 53 z = σ 53 z) → Q none τ) : evm mX8_keep [.inr (.inr 50), .inl (nI i)] σ Q := by
  obtain ⟨hu, h2, h3⟩ := hB
  have loop : ∀ (d p : Nat) (τ : ab_M), p + d = u → (∀ z, z ≠ 53 → τ z = σ z) → (∀ t, t < p → τ 53 (60 * i + t) = nI (b t)) → (∀ z, (z < 60 * i ∨ 60 * i + 60 ≤ z) → τ 53 z = σ 53 z) → ev mX8_keep 2 [some (.inr (.inr 50)), some (.inl (nI i)), some (.inl (nI p))] [] τ Q := by
    intro d
    induction d with
    | zero =>
      intro p τ hp f1 f2 f3
      have hpu : p = u := by omega
      subst hpu
      have e50 : τ 50 2 = nI p := by rw [f1 50 (by decide)]; exact h2
      refine s_X8_keep_2 ⟨fun _ => ⟨inN (by omega) (by decide), ?_⟩, fun h => absurd (by rw [e50]; exact nI_le (Nat.le_refl _) (by omega)) h⟩
      rw [e50, nI_clamp (by omega)]
      refine k _ (fun z z1 z2 z3 => ?_) (fun t ht => ?_) ?_ (fun j hj => ?_) ?_ (fun t ht => ?_) (fun z hz => ?_)
      · rw [ab_upd_off _ _ z1, ab_upd_off _ _ z3, f1 z z2]
      · rw [ab_upd_eq, if_neg (fun h => ht h.2), ab_upd_off _ _ (by decide), f1 50 (by decide)]
      · rw [ab_upd_same]
      · rw [ab_upd_off _ _ (by decide), ab_upd_eq, if_neg (fun h => hj h.2), f1 54 (by decide)]
      · rw [ab_upd_off _ _ (by decide), ab_upd_same]
      · rw [ab_upd_off _ _ (by decide), ab_upd_off _ _ (by decide)]
        exact f2 t ht
      · rw [ab_upd_off _ _ (by decide), ab_upd_off _ _ (by decide)]
        exact f3 z hz
    | succ d ih =>
      intro p τ hp f1 f2 f3
      have e50 : τ 50 2 = nI u := by rw [f1 50 (by decide)]; exact h2
      have e60 : (60 * nI i) + nI p = nI (60 * i + p) := by
        have e : (60 : Int32) * nI i = nI (60 * i) := pk_mul 60 i
        rw [e, nI_add]
      refine s_X8_keep_2 ⟨fun h => absurd (by rw [e50] at h; exact h) (nI_ge (by omega) (by omega)), fun _ => ⟨inN (by omega) (by decide), ?_, ?_⟩⟩
      · rw [e60]
        exact inN (by omega) (by decide)
      · rw [e60, nI_clamp (by omega), nI_clamp (by omega), f1 52 (by decide), (h3 p (by omega)).1, nI_1]
        refine ih (p + 1) _ (by omega) (fun z hz => ?_) (fun t ht => ?_) (fun z hz => ?_)
        · rw [ab_upd_off _ _ hz, f1 z hz]
        · rw [ab_upd_eq]
          by_cases e : t = p
          · rw [if_pos ⟨rfl, by omega⟩, e]
          · rw [if_neg (fun h => e (by omega))]
            exact f2 t (by omega)
        · rw [ab_upd_eq, if_neg (fun h => by omega)]
          exact f3 z hz
  exact s_X8_keep_0 (loop u 0 σ (by omega) (fun _ _ => rfl) (fun t ht => by omega) (fun _ _ => rfl))

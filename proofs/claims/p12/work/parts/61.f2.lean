/-! the class's reader -/
/-- a clause's cells -/
def Cl (q : Nat) : Prop := ∃ i, i < 10 ∧ q = 7 + 3 * i
theorem Cl_sh {q : Nat} (h : Cl q) : sh0[q]? = some (.inl (1, [some (some (q + 1)), some (some (q + 2)), none])) ∧ sh0[q + 1]? = some (.inr (.inl (0, 60))) ∧ sh0[q + 2]? = some (.inr (.inl (2, 3))) := by
  obtain ⟨i, hi, rfl⟩ := h
  match i, hi with
  | 0, _ => exact ⟨rfl, rfl, rfl⟩
  | 1, _ => exact ⟨rfl, rfl, rfl⟩
  | 2, _ => exact ⟨rfl, rfl, rfl⟩
  | 3, _ => exact ⟨rfl, rfl, rfl⟩
  | 4, _ => exact ⟨rfl, rfl, rfl⟩
  | 5, _ => exact ⟨rfl, rfl, rfl⟩
  | 6, _ => exact ⟨rfl, rfl, rfl⟩
  | 7, _ => exact ⟨rfl, rfl, rfl⟩
  | 8, _ => exact ⟨rfl, rfl, rfl⟩
  | 9, _ => exact ⟨rfl, rfl, rfl⟩
  | i + 10, hi => omega
theorem Cl_lo {q : Nat} (h : Cl q) : 7 ≤ q ∧ q + 2 < 37 := by
  obtain ⟨i, hi, rfl⟩ := h
  omega
/-- outside these three cells nothing changes -/
def fr3 (q : Nat) (σ τ : ab_M) : Prop := ∀ z, z ≠ q → z ≠ q + 1 → z ≠ q + 2 → τ z = σ z
theorem fr3_upd {q : Nat} {σ τ : ab_M} (h : fr3 q σ τ) {z k : Nat} {v : Int32} (hz : z = q ∨ z = q + 1 ∨ z = q + 2) : fr3 q σ (ab_upd τ z k v) := fun y h1 h2 h3 => by
  rw [ab_upd_off _ _ (by omega)]
  exact h y h1 h2 h3
theorem fg_ok {σ : ab_M} {Q : Option ab_V → ab_M → Prop} {q : Nat} (hc : Cl q) (k : ∀ τ : ab_M, fr3 q σ τ → τ q 2 = 0 → (∀ v, v < 3 → τ (q + 2) v = 0) → Q none τ) : evm mX1_forgetText [.inr (.inr q)] σ Q := by
  obtain ⟨c0, c1, c2⟩ := Cl_sh hc
  have loop : ∀ (d a : Nat) (τ : ab_M), a + d = 3 → fr3 q σ τ → τ q 2 = 0 → (∀ v, v < a → τ (q + 2) v = 0) → ev mX1_forgetText 7 [some (.inr (.inr q)), some (.inl (nI a))] [] τ Q := by
    intro d
    induction d with
    | zero =>
      intro a τ ha h1 h2 h3
      exact s_X1_forgetText_7 c0 c1 c2 ⟨fun _ => k τ h1 h2 (fun v hv => h3 v (by omega)), fun h => absurd (nI_le (a := 3) (by omega) (by omega)) h⟩
    | succ d ih =>
      intro a τ ha h1 h2 h3
      refine s_X1_forgetText_7 c0 c1 c2 ⟨fun h => absurd h (nI_ge (b := 3) (by omega) (by decide)), fun _ => ⟨?_, ?_⟩⟩
      · exact ab_in_of (by rw [nI_toInt (by omega)]; omega) (by rw [nI_toInt (by omega)]; omega)
      · rw [nI_1, nI_clamp (by omega)]
        refine ih (a + 1) _ (by omega) (fr3_upd h1 (Or.inr (Or.inr rfl))) ?_ (fun v hv => ?_)
        · rw [ab_upd_off _ _ (by omega)]
          exact h2
        · rw [ab_upd_eq]
          by_cases e : v = a
          · rw [if_pos ⟨rfl, e⟩]
          · rw [if_neg (fun h => e h.2)]
            exact h3 v (by omega)
  refine s_X1_forgetText_0 c0 c1 c2 ?_
  refine loop 3 0 _ (by omega) (fr3_upd (fun _ _ _ _ => rfl) (Or.inl rfl)) (ab_upd_same _ _ _ _) (fun v hv => by omega)
/-- one of the first p characters is this variable -/
def hasv (b : Nat → Nat) (p v : Nat) : Bool := (List.range p).any (fun t => decide (b t = 120 + v))
theorem hasv_s (b : Nat → Nat) (p v : Nat) : hasv b (p + 1) v = (hasv b p v || decide (b p = 120 + v)) := by
  unfold hasv
  rw [List.range_succ, List.any_append]
  simp
/-- the first p characters are kept in the clause's cells -/
def Kp (q : Nat) (b : Nat → Nat) (p : Nat) (τ : ab_M) : Prop := τ q 2 = nI p ∧ (∀ t, t < p → τ (q + 1) t = cd (b t)) ∧ (∀ v, v < 3 → τ (q + 2) v = bif hasv b p v then 1 else 0)
theorem cd_v8 : ∀ b, b < 256 → 120 ≤ b ∧ b ≤ 122 → cd b - 8 = nI (b - 120) := by decide +kernel
theorem kp_ok {τ : ab_M} {Q : Option ab_V → ab_M → Prop} {q p : Nat} {b : Nat → Nat} (hc : Cl q) (hp : p < 60) (hb : b p < 256) (h : Kp q b p τ) (k : ∀ υ : ab_M, fr3 q τ υ → Kp q b (p + 1) υ → Q none υ) : evm mX1_keep [.inr (.inr q), .inl (cd (b p))] τ Q := by
  obtain ⟨c0, c1, c2⟩ := Cl_sh hc
  obtain ⟨h1, h2, h3⟩ := h
  refine s_X1_keep_0 c0 c1 c2 ⟨fun h4 => ?_, fun _ => ⟨?_, ?_⟩⟩
  · rw [h1] at h4
    exact absurd h4 (nI_ge (b := 60) hp (by decide))
  · rw [h1]
    exact ab_in_of (by rw [nI_toInt (by omega)]; omega) (by rw [nI_toInt (by omega)]; omega)
  · rw [h1, nI_clamp (by omega), ab_upd_off τ (q := q + 1) (a := q) _ (by omega), h1, nI_1]
    have f1 : fr3 q τ (ab_upd (ab_upd τ (q + 1) p (cd (b p))) q 2 (nI (p + 1))) := fr3_upd (fr3_upd (fun _ _ _ _ => rfl) (Or.inr (Or.inl rfl))) (Or.inl rfl)
    have g1 : (ab_upd (ab_upd τ (q + 1) p (cd (b p))) q 2 (nI (p + 1))) q 2 = nI (p + 1) := ab_upd_same _ _ _ _
    have g2 : ∀ t, t < p + 1 → (ab_upd (ab_upd τ (q + 1) p (cd (b p))) q 2 (nI (p + 1))) (q + 1) t = cd (b t) := by
      intro t ht
      rw [ab_upd_off _ _ (by omega), ab_upd_eq]
      by_cases e : t = p
      · rw [if_pos ⟨rfl, e⟩, e]
      · rw [if_neg (fun h => e h.2)]
        exact h2 t (by omega)
    have g3 : ∀ v, v < 3 → (ab_upd (ab_upd τ (q + 1) p (cd (b p))) q 2 (nI (p + 1))) (q + 2) v = bif hasv b p v then 1 else 0 := by
      intro v hv
      rw [ab_upd_off _ _ (by omega), ab_upd_off _ _ (by omega)]
      exact h3 v hv
    generalize ab_upd (ab_upd τ (q + 1) p (cd (b p))) q 2 (nI (p + 1)) = υ at f1 g1 g2 g3 ⊢
    refine iv_ok hb ⟨_, rfl, ?_⟩
    by_cases hv : 120 ≤ b p ∧ b p ≤ 122
    · rw [if_pos hv]
      refine ⟨fun h => absurd h (by decide), fun _ => ?_⟩
      rw [cd_v8 (b p) hb hv]
      refine ⟨ab_in_of (by rw [nI_toInt (by omega)]; omega) (by rw [nI_toInt (by omega)]; omega), ?_⟩
      rw [nI_clamp (by omega)]
      refine k _ (fr3_upd f1 (Or.inr (Or.inr rfl))) ⟨?_, fun t ht => ?_, fun v hv2 => ?_⟩
      · rw [ab_upd_off _ _ (by omega)]; exact g1
      · rw [ab_upd_off _ _ (by omega)]; exact g2 t ht
      · rw [ab_upd_eq, hasv_s]
        by_cases e : v = b p - 120
        · rw [if_pos ⟨rfl, e⟩]
          have e2 : b p = 120 + v := by omega
          simp [e2]
        · rw [if_neg (fun h => e h.2), g3 v hv2]
          have e2 : ¬ b p = 120 + v := by omega
          simp [e2]
    · rw [if_neg hv]
      refine ⟨fun _ => k _ f1 ⟨g1, g2, fun v hv2 => ?_⟩, fun h => absurd rfl h⟩
      rw [g3 v hv2, hasv_s]
      have e2 : ¬ b p = 120 + v := by omega
      simp [e2]
/-- the buffer of the class -/
def Bf (σ : ab_M) (u : Nat) (b : Nat → Nat) : Prop := u ≤ 60 ∧ σ 3 1 = nI u ∧ ∀ t, t < u → σ 4 t = nI (b t) ∧ b t < 256
theorem bat_ok {σ : ab_M} {Q : Option ab_V → ab_M → Prop} {u p : Nat} {b : Nat → Nat} (h : Bf σ u b) (hp : p < u) (k : Q (some (.inl (nI (b p)))) σ) : evm mX0_at [.inr (.inr 3), .inl (nI p)] σ Q := by
  obtain ⟨h1, h2, h3⟩ := h
  refine s_X0_at_0 ⟨fun h => absurd h (nI_pos (by omega)), fun _ => ⟨fun _ => ⟨?_, ?_⟩, fun h => ?_⟩⟩
  · exact ab_in_of (by rw [nI_toInt (by omega)]; omega) (by rw [nI_toInt (by omega)]; omega)
  · rw [nI_clamp (by omega), (h3 p hp).1]
    have := (h3 p hp).2
    exact ⟨decide_eq_true (nI_char (by omega)), k⟩
  · rw [h2] at h
    exact absurd (nI_lt hp (by omega)) h
/-- the answer of a reader -/
def rdR (o : Option Nat) : Int32 := match o with
  | none => -1
  | some p => nI p
theorem rd_ok {σ : ab_M} {Q : Option ab_V → ab_M → Prop} {q u : Nat} {b : Nat → Nat} (hc : Cl q) (hB : Bf σ u b) (har : ∀ j, j < 8 → arok (σ 2 j)) (k : ∀ τ : ab_M, fr3 q σ τ → (aur (σ 2) b u 0 (-2) = none → Kp q b u τ) → Q (some (.inl (rdR (aur (σ 2) b u 0 (-2))))) τ) : evm mX1_read [.inr (.inr q), .inr (.inr 3), .inr (.inr 1)] σ Q := by
  obtain ⟨c0, c1, c2⟩ := Cl_sh hc
  have hlo := Cl_lo hc
  have tr : ∀ {τ : ab_M}, fr3 q σ τ → Bf τ u b ∧ τ 2 = σ 2 := by
    intro τ h
    refine ⟨⟨hB.1, ?_, fun t ht => ?_⟩, h 2 (by omega) (by omega) (by omega)⟩
    · rw [h 3 (by omega) (by omega) (by omega)]; exact hB.2.1
    · rw [h 4 (by omega) (by omega) (by omega)]; exact hB.2.2 t ht
  have hu := hB.1
  have loop : ∀ (d p : Nat) (s : Int32) (τ : ab_M) (o5 : Option ab_V), p + d = u → sok p s → fr3 q σ τ → Kp q b p τ → aur (σ 2) b d p s = aur (σ 2) b u 0 (-2) → ev mX1_read 9 [some (.inr (.inr q)), some (.inr (.inr 3)), some (.inr (.inr 1)), some (.inl (cs s)), some (.inl (nI p)), o5] [] τ Q := by
    intro d
    induction d with
    | zero =>
      intro p s τ o5 hp hs hf hk he
      obtain ⟨hB2, h2⟩ := tr hf
      have hpu : p = u := by omega
      subst hpu
      refine s_X1_read_9 c0 c1 c2 (s_X0_length_0 ⟨_, rfl, ?_⟩)
      rw [hB2.2.1]
      refine ⟨fun _ => ⟨fun h => ?_, fun h => ?_⟩, fun h => absurd (nI_le (Nat.le_refl _) (by omega)) h⟩
      · have hs0 : s = 0 := by
          unfold cs at h
          split at h
          · exact absurd h (by decide)
          · split at h
            · exact absurd h (by decide)
            · exact h
        have e0 : aur (σ 2) b 0 p s = none := by
          unfold aur
          rw [if_pos hs0]
        rw [e0] at he
        have kk := k τ hf (fun _ => hk)
        rw [← he] at kk
        exact kk
      · have hs0 : ¬ s = 0 := fun e => h (by rw [e]; decide)
        have e0 : aur (σ 2) b 0 p s = some p := by
          unfold aur
          rw [if_neg hs0]
        rw [e0] at he
        have kk := k τ hf (fun e => by rw [e] at he; cases he)
        rw [← he] at kk
        refine s_X0_length_0 ⟨_, rfl, ?_⟩
        rw [hB2.2.1]
        exact kk
    | succ d ih =>
      intro p s τ o5 hp hs hf hk he
      obtain ⟨hB2, h2⟩ := tr hf
      have hb := (hB2.2.2 p (by omega)).2
      have har2 : ∀ j, j < 8 → arok (τ 2 j) := fun j hj => by rw [h2]; exact har j hj
      refine s_X1_read_9 c0 c1 c2 (s_X0_length_0 ⟨_, rfl, ?_⟩)
      rw [hB2.2.1]
      refine ⟨fun h => absurd h (nI_ge (by omega) (by omega)), fun _ => ?_⟩
      refine bat_ok hB2 (by omega) ⟨_, rfl, ?_⟩
      refine x_codeOf τ (nI (b p)) ⟨_, rfl, ?_⟩
      rw [cd_ok τ (b p) hb]
      refine af_ok (p := p) (by omega) hs hb har2 ⟨_, rfl, ?_⟩
      rw [h2]
      cases ha : au (σ 2) s (b p) with
      | none =>
        refine ⟨fun _ => ?_, fun h => absurd rfl h⟩
        have e0 : aur (σ 2) b (d + 1) p s = some p := by
          unfold aur
          rw [ha]
        rw [e0] at he
        have kk := k τ hf (fun e => by rw [e] at he; cases he)
        rw [← he] at kk
        exact kk
      | some s' =>
        have hs' := au_sok har (by omega) hs ha
        refine ⟨fun h => ?_, fun _ => ?_⟩
        · exfalso
          have h9 : cs s' = -3 := h
          rcases hs' with rfl | rfl | h3
          · exact absurd h9 (by decide)
          · exact absurd h9 (by decide)
          · rw [cs_ge h3.1] at h9
            rw [h9] at h3
            exact absurd h3.1 (by decide)
        · refine kp_ok hc (by omega) hb hk (fun υ f1 f2 => ⟨rfl, ?_⟩)
          rw [nI_1]
          refine ih (p + 1) s' υ _ (by omega) hs' (fun z a1 a2 a3 => by rw [f1 z a1 a2 a3, hf z a1 a2 a3]) f2 ?_
          rw [← he]
          have e0 : aur (σ 2) b (d + 1) p s = aur (σ 2) b d (p + 1) s' := by
            show (match au (σ 2) s (b p) with
              | none => some p
              | some s' => aur (σ 2) b d (p + 1) s') = _
            rw [ha]
          rw [e0]
  refine s_X1_read_0 c0 c1 c2 (fg_ok hc (fun τ h1 h2 h3 => ⟨rfl, ?_⟩))
  refine loop u 0 (-2) τ none (by omega) (Or.inl rfl) h1 ⟨h2, fun t ht => by omega, fun v hv => ?_⟩ rfl
  rw [h3 v hv]
  rfl

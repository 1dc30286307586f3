/-! the class's search: it returns, and where it writes -/
def TI (n : Nat) (σ : ab_M) : Prop := n ≤ 4 ∧ σ 37 4 = nI n ∧ ∃ c, c ≤ 128 ∧ σ 37 5 = nI c ∧ ∀ r, r < c → ∃ o, o < 128 ∧ σ 39 r = nI o
theorem TI_of {n : Nat} {σ τ : ab_M} (h : TI n σ) (h1 : τ 37 = σ 37) (h2 : τ 39 = σ 39) : TI n τ := by
  unfold TI
  rw [h1, h2]
  exact h
def fL (σ τ : ab_M) : Prop := ∀ z, (z < 42 ∨ 45 ≤ z) → τ z = σ z
theorem fL.rf {σ : ab_M} : fL σ σ := fun _ _ => rfl
theorem fL.tr {σ τ υ : ab_M} (h1 : fL σ τ) (h2 : fL τ υ) : fL σ υ := fun z hz => (h2 z hz).trans (h1 z hz)
theorem fL.up {σ τ : ab_M} (h : fL σ τ) {q k : Nat} {v : Int32} (hq : 42 ≤ q ∧ q < 45) : fL σ (ab_upd τ q k v) := fun z hz => by
  rw [ab_upd_off _ _ (by omega)]
  exact h z hz
def TopOK (σ : ab_M) : Prop := ∃ t, t ≤ 60 ∧ σ 42 4 = nI t
theorem TopOK.up {σ : ab_M} (h : TopOK σ) {q k : Nat} {v : Int32} (hq : q ≠ 42 ∨ k ≠ 4) : TopOK (ab_upd σ q k v) := by
  obtain ⟨t, h1, h2⟩ := h
  refine ⟨t, h1, ?_⟩
  rw [ab_upd_eq, if_neg (by omega)]
  exact h2
section LK
variable {σ : ab_M} {Q : Option ab_V → ab_M → Prop}
theorem pu_s {x : Int32} (h : TopOK σ) (k : ∀ τ, TopOK τ → fL σ τ → Q none τ) : evm mX3_push [.inr (.inr 42), .inl x] σ Q := by
  obtain ⟨t, h1, h2⟩ := h
  refine s_X3_push_0 ⟨fun _ => k σ ⟨t, h1, h2⟩ fL.rf, fun h3 => ?_⟩
  have ht : t < 60 := by
    rcases Nat.lt_or_ge t 60 with q | q
    · exact q
    · exact absurd (by rw [h2]; exact nI_le (a := 60) q (by omega)) h3
  refine ⟨by rw [h2]; exact inN ht (by decide), k _ ⟨t + 1, by omega, ?_⟩ (fL.up (fL.up fL.rf (by omega)) (by omega))⟩
  rw [ab_upd_same, ab_upd_off _ _ (by decide), h2, nI_1]
theorem po_s (h : TopOK σ) (k : ∀ r τ, TopOK τ → fL σ τ → Q (some (.inl r)) τ) : evm mX3_pop [.inr (.inr 42)] σ Q := by
  obtain ⟨t, h1, h2⟩ := h
  refine s_X3_pop_0 ⟨fun h3 => ?_, fun h3 => ?_⟩
  · have ht : t = 0 := by
      rcases Nat.eq_zero_or_pos t with q | q
      · exact q
      · rw [h2] at h3
        exact absurd h3 (nI_nle q (by omega))
    refine ⟨by rw [h2, ht]; exact inN (by omega) (by decide), k _ σ ⟨t, h1, h2⟩ fL.rf⟩
  · have ht : 0 < t := by
      rcases Nat.eq_zero_or_pos t with q | q
      · exact absurd (by rw [h2, q]; decide) h3
      · exact q
    have e : σ 42 4 - 1 = nI (t - 1) := by
      rw [h2]
      have := nI_pred (t - 1)
      rw [show t - 1 + 1 = t by omega] at this
      exact this
    rw [e]
    refine ⟨by rw [ab_upd_same]; exact inN (by omega) (by decide), k _ _ ⟨t - 1, by omega, ab_upd_same _ _ _ _⟩ (fL.up fL.rf (by omega))⟩
theorem ar_s {x : Int32} (k : ∀ r, Q (some (.inl r)) σ) : evm mX5_arityOf [.inr (.inr 1), .inl x] σ Q := by
  refine s_X5_arityOf_0 ⟨fun _ => k _, fun h => ⟨fun h2 => ⟨?_, k _⟩, fun _ => k _⟩⟩
  rw [Int32.lt_iff_toInt_lt] at h h2
  rw [li_0] at h
  rw [li_8] at h2
  exact ab_in_of (by omega) (by omega)
theorem ra_s {x : Int32} (k : ∀ r, Q (some (.inl r)) σ) : evm mX6_rankOf [.inr (.inr 37), .inl x] σ Q := by
  refine s_X6_rankOf_0 ⟨fun _ => k _, fun h => ⟨fun h2 => ⟨?_, k _⟩, fun _ => k _⟩⟩
  rw [Int32.lt_iff_toInt_lt] at h h2
  rw [li_0] at h
  rw [li_128] at h2
  exact ab_in_of (by omega) (by omega)
theorem va_s {x : Int32} (k : ∀ r, Q (some (.inl r)) σ) : evm mX6_valueOf [.inr (.inr 37), .inl x] σ Q := by
  refine s_X6_valueOf_0 ⟨fun _ => k _, fun h => ⟨fun h2 => ⟨?_, k _⟩, fun _ => k _⟩⟩
  rw [Int32.lt_iff_toInt_lt] at h h2
  rw [li_0] at h
  rw [li_128] at h2
  exact ab_in_of (by omega) (by omega)
theorem ip_s {x : Int32} (k : ∀ r, Q (some (.inl r)) σ) : evm mX7_isPredicate [.inl x] σ Q := s_X7_isPredicate_0 ⟨fun _ => k _, fun _ => ⟨fun _ => k _, fun _ => k _⟩⟩
theorem iv_s {x : Int32} (k0 : Q (some (.inl 0)) σ) (k1 : ¬ x < 8 → ¬ 11 ≤ x → Q (some (.inl 1)) σ) : evm mX7_isVariable [.inl x] σ Q := s_X7_isVariable_0 ⟨fun _ => k0, fun h => ⟨fun _ => k0, fun h2 => k1 h h2⟩⟩
/-- behind the terms: the cell is read -/
theorem rc_t {x y z w : Int32} (h : TopOK σ) (k : ∀ r τ, TopOK τ → fL σ τ → Q (some (.inl r)) τ) : evm mX6_cellOf [.inl x, .inl y, .inl z] σ (fun v τ3 => ∃ r4 : Int32, v = some (.inl r4) ∧ evm mX6_rankOf [.inr (.inr 37), .inl r4] τ3 (fun v τ5 => ∃ r6 : Int32, v = some (.inl r6) ∧ evm mX6_valueOf [.inr (.inr 37), .inl r4] τ5 (fun v τ7 => ∃ r8 : Int32, v = some (.inl r8) ∧ ((r8 = (-1) → Q (some (.inl 0)) (ab_upd τ7 42 7 r6)) ∧ (¬ r8 = (-1) → evm mX7_isPredicate [.inl w] (ab_upd τ7 42 6 (ab_mm true (τ7 42 6) r6)) (fun v τ9 => ∃ r10 : Int32, v = some (.inl r10) ∧ ((r10 = 0 → evm mX3_push [.inr (.inr 42), .inl r8] τ9 (fun v τ11 => v = none ∧ Q (some (.inl 1)) τ11)) ∧ (¬ r10 = 0 → ((r8 = 1 → Q (some (.inl 1)) (ab_upd τ9 42 5 1)) ∧ (¬ r8 = 1 → Q (some (.inl 1)) (ab_upd τ9 42 5 0))))))))))) := by
  refine s_X6_cellOf_0 ⟨_, rfl, ra_s (fun r6 => ⟨_, rfl, va_s (fun r8 => ⟨_, rfl, fun _ => ?_, fun _ => ip_s (fun r10 => ⟨_, rfl, fun _ => ?_, fun _ => ⟨fun _ => ?_, fun _ => ?_⟩⟩)⟩)⟩)⟩
  · exact k _ _ (h.up (by omega)) (fL.up fL.rf (by omega))
  · exact pu_s (h.up (by omega)) (fun τ t1 t2 => ⟨rfl, k _ τ t1 ((fL.up fL.rf (by omega)).tr t2)⟩)
  · exact k _ _ ((h.up (by omega)).up (by omega)) (fL.up (fL.up fL.rf (by omega)) (by omega))
  · exact k _ _ ((h.up (by omega)).up (by omega)) (fL.up (fL.up fL.rf (by omega)) (by omega))
theorem rc_s {x : Int32} (h : TopOK σ) (k : ∀ r τ, TopOK τ → fL σ τ → Q (some (.inl r)) τ) : evm mX3_readCell [.inr (.inr 42), .inl x] σ Q := by
  refine s_X3_readCell_0 (ar_s (fun r2 => ⟨_, rfl, fun _ => ⟨fun _ => rc_t h k, fun _ => ?_⟩, fun _ => ?_⟩))
  · exact po_s h (fun r4 τ t1 t2 => ⟨_, rfl, rc_t t1 (fun r υ u1 u2 => k r υ u1 (t2.tr u2))⟩)
  · exact po_s h (fun r4 τ t1 t2 => ⟨_, rfl, fun _ => rc_t t1 (fun r υ u1 u2 => k r υ u1 (t2.tr u2)), fun _ => po_s t1 (fun r6 υ u1 u2 => ⟨_, rfl, rc_t u1 (fun r ω w1 w2 => k r ω w1 ((t2.tr u2).tr w2))⟩)⟩)
theorem ca_s {q : Nat} {x : Int32} (hc : Cl q) {L : Nat} (hL : L ≤ 60) (h : σ q 2 = nI L) (k : ∀ r, Q (some (.inl r)) σ) : evm mX1_codeAt [.inr (.inr q), .inl x] σ Q := by
  obtain ⟨c0, c1, c2⟩ := Cl_sh hc
  refine s_X1_codeAt_0 c0 c1 c2 ⟨fun _ => k _, fun h1 => ⟨fun h2 => ⟨?_, k _⟩, fun _ => k _⟩⟩
  rw [h] at h2
  rw [Int32.lt_iff_toInt_lt] at h1 h2
  rw [li_0] at h1
  rw [nI_toInt (by omega)] at h2
  exact ab_in_of (by omega) (by omega)
theorem ib_s {q : Nat} {x y z : Int32} (hc : Cl q) {L : Nat} (hL : L ≤ 60) (h : σ q 2 = nI L) (k : ∀ r τ, fL σ τ → Q (some (.inl r)) τ) : evm mX3_isBroken [.inr (.inr 42), .inr (.inr q), .inl x, .inl y, .inl z] σ Q := by
  obtain ⟨c0, c1, c2⟩ := Cl_sh hc
  have hlo := Cl_lo hc
  have loop : ∀ (j : Nat) (i : Int32) (τ : ab_M) (o6 : Option ab_V), i = dn j → j ≤ L → TopOK τ → fL σ τ → ev mX3_isBroken 34 [some (.inr (.inr 42)), some (.inr (.inr q)), some (.inl x), some (.inl y), some (.inl z), some (.inl i), o6] [] τ Q := by
    intro j
    induction j with
    | zero =>
      intro i τ o6 hi hj t1 t2
      subst hi
      exact s_X3_isBroken_34 c0 c1 c2 ⟨fun _ => ⟨fun _ => k _ τ t2, fun _ => k _ τ t2⟩, fun h7 => absurd dn_0 h7⟩
    | succ j ih =>
      intro i τ o6 hi hj t1 t2
      rw [dn_s] at hi
      subst hi
      have hq : τ q 2 = nI L := by rw [t2 q (by omega)]; exact h
      have go : ∀ (υ : ab_M) (o6 : Option ab_V), TopOK υ → fL τ υ → ev mX3_isBroken 34 [some (.inr (.inr 42)), some (.inr (.inr q)), some (.inl x), some (.inl y), some (.inl z), some (.inl (nI j + (-1))), o6] [] υ Q := fun υ o6 u1 u2 => ih _ υ o6 (dn_m j) (by omega) u1 (t2.tr u2)
      refine s_X3_isBroken_34 c0 c1 c2 ⟨fun h7 => absurd h7 (nI_pos (by omega)), fun _ => ca_s hc hL hq (fun r2 => ⟨_, rfl, ?_⟩)⟩
      refine iv_s ⟨_, rfl, fun _ => ⟨fun _ => ?_, fun _ => ⟨fun _ => ⟨fun _ => ?_, fun _ => ?_⟩, fun _ => ⟨fun _ => ⟨fun _ => ?_, fun _ => ?_⟩, fun _ => ?_⟩⟩⟩, fun h8 => absurd rfl h8⟩ (fun g1 g2 => ⟨_, rfl, fun h8 => absurd h8 (by decide), fun _ => ⟨?_, ?_⟩⟩)
      · refine po_s t1 (fun r6 υ u1 u2 => ⟨_, rfl, po_s u1 (fun r8 ω w1 w2 => ⟨_, rfl, fun _ => ?_, fun _ => ?_⟩)⟩)
        · exact go _ _ (w1.up (by omega)) (fL.up (u2.tr w2) (by omega))
        · exact go _ _ (w1.up (by omega)) (fL.up (u2.tr w2) (by omega))
      · exact go _ _ (t1.up (by omega)) (fL.up fL.rf (by omega))
      · exact go _ _ (t1.up (by omega)) (fL.up fL.rf (by omega))
      · exact go _ _ t1 fL.rf
      · exact k _ τ t2
      · exact rc_s t1 (fun r6 υ u1 u2 => ⟨_, rfl, fun _ => k _ υ (t2.tr u2), fun _ => go _ _ u1 u2⟩)
      · rw [Int32.lt_iff_toInt_lt] at g1
        rw [Int32.le_iff_toInt_le] at g2
        rw [li_8] at g1
        have l11 : (11 : Int32).toInt = 11 := by decide
        rw [l11] at g2
        have e : (r2 - 8).toInt = r2.toInt - 8 := by rw [i32_sub (by rw [li_8]; omega) (by rw [li_8]; omega), li_8]
        exact ab_in_of (by rw [e]; omega) (by rw [e]; omega)
      · exact pu_s t1 (fun υ u1 u2 => ⟨rfl, go _ _ u1 u2⟩)
  refine s_X3_isBroken_0 c0 c1 c2 (s_X3_forgetLatest_0 ⟨rfl, by decide, by decide, by decide, ?_⟩)
  refine s_X1_length_0 c0 c1 c2 ⟨_, rfl, ?_⟩
  refine loop L _ _ _ ?_ (Nat.le_refl _) ?_ ?_
  · rw [ab_upd_off _ _ (by omega), ab_upd_off _ _ (by omega), ab_upd_off _ _ (by omega), ab_upd_off _ _ (by omega), ab_upd_off _ _ (by omega), ab_upd_off _ _ (by omega), ab_upd_off _ _ (by omega), h]
    rfl
  · refine ((TopOK.up ?_ (by omega)).up (by omega)).up (by omega)
    refine ⟨0, by omega, ?_⟩
    rw [ab_upd_eq, if_neg (by decide), ab_upd_eq, if_neg (by decide), ab_upd_eq, if_neg (by decide), ab_upd_same]
    rfl
  · exact fL.up (fL.up (fL.up (fL.up (fL.up (fL.up (fL.up fL.rf (by omega)) (by omega)) (by omega)) (by omega)) (by omega)) (by omega)) (by omega)
theorem ch_s {q v : Nat} {x : Int32} (hc : Cl q) (hv : v < 3) (k : ∀ r, (r = 1 ∨ r = x) → Q (some (.inl r)) σ) : evm mX1_choices [.inr (.inr q), .inl (nI v), .inl x] σ Q := by
  obtain ⟨c0, c1, c2⟩ := Cl_sh hc
  exact s_X1_choices_0 c0 c1 c2 ⟨fun _ => k _ (Or.inl rfl), fun _ => ⟨fun _ => k _ (Or.inl rfl), fun _ => ⟨inN hv (by decide), fun _ => k _ (Or.inl rfl), fun _ => k _ (Or.inr rfl)⟩⟩⟩
end LK

/-! find on a fresh object -/
theorem fl_ok {σ : ab_M} {Q : Option ab_V → ab_M → Prop} {g n : Nat} {v : Int32} (hg : sh0[g]? = some (.inr (.inl (0, n)))) (hn : n < 2 ^ 31) (k : ∀ τ : ab_M, (∀ q, q ≠ g → τ q = σ q) → (∀ j, j < n → τ g j = v) → Q none τ) : evm mJ7_fill_53178 [.inr (.inr g), .inl v] σ Q := by
  have loop : ∀ (d a : Nat) (τ : ab_M), a + d = n → (∀ q, q ≠ g → τ q = σ q) → (∀ j, j < a → τ g j = v) → ev mJ7_fill_53178 5 [some (.inr (.inr g)), some (.inl v), some (.inl (nI a)), some (.inl (nI n))] [] τ Q := by
    intro d
    induction d with
    | zero =>
      intro a τ ha h1 h2
      exact s_J7_fill_53178_5 hg ⟨fun _ => k τ h1 (fun j hj => h2 j (by omega)), fun h => absurd (nI_le (by omega) (by omega)) h⟩
    | succ d ih =>
      intro a τ ha h1 h2
      refine s_J7_fill_53178_5 hg ⟨fun h => absurd h (nI_ge (by omega) (by omega)), fun _ => ⟨?_, ?_⟩⟩
      · exact ab_in_of (by rw [nI_toInt (by omega)]; omega) (by rw [nI_toInt (by omega)]; omega)
      · rw [nI_1, nI_clamp (by omega)]
        refine ih (a + 1) _ (by omega) (fun q hq => ?_) (fun j hj => ?_)
        · rw [ab_upd_off _ _ hq, h1 q hq]
        · rw [ab_upd_eq]
          by_cases hja : j = a
          · rw [if_pos ⟨rfl, hja⟩]
          · rw [if_neg (fun h => hja h.2)]
            exact h2 j (by omega)
  exact s_J7_fill_53178_0 hg (loop n 0 σ (by omega) (fun _ _ => rfl) (fun j hj => by omega))
theorem ar_ok {σ : ab_M} {Q : Option ab_V → ab_M → Prop} {j : Nat} (hj : j < 8) (k : Q (some (.inl (σ 2 j))) σ) : evm mX5_arityOf [.inr (.inr 1), .inl (nI j)] σ Q := by
  refine s_X5_arityOf_0 ⟨fun h => absurd h (nI_pos (by omega)), fun _ => ⟨fun _ => ⟨?_, ?_⟩, fun h => absurd (nI_lt (b := 8) (by omega) (by decide)) h⟩⟩
  · exact ab_in_of (by rw [nI_toInt (by omega)]; omega) (by rw [nI_toInt (by omega)]; omega)
  · rw [nI_clamp (by omega)]
    exact k
theorem lc_none {σ : ab_M} {Q : Option ab_V → ab_M → Prop} {x y : Int32} (k : Q none σ) : evm mX6_layCells [.inr (.inr 37), .inl x, .inl (-1), .inl y] σ Q := by
  refine s_X6_layCells_0 ⟨fun h => absurd h (by decide), fun _ => ⟨fun h => absurd h (by decide), fun _ => ⟨fun h => absurd h (by decide), fun _ => k⟩⟩⟩
/-- no symbol is there: nothing is laid -/
theorem la_none {σ : ab_M} {Q : Option ab_V → ab_M → Prop} (ha : ∀ j, j < 8 → σ 2 j = -1) (k : ∀ τ : ab_M, (∀ q, q ≠ 37 → q ≠ 38 → τ q = σ q) → τ 37 4 = 1 → τ 37 5 = 0 → Q none τ) : evm mX6_lay [.inr (.inr 37), .inl 1, .inr (.inr 1)] σ Q := by
  refine s_X6_lay_0 ?_
  refine fl_ok (n := 128) rfl (by decide) (fun τ h1 _ => ⟨rfl, ?_⟩)
  have hA : ∀ j, j < 8 → τ 2 j = -1 := by
    intro j hj
    rw [h1 2 (by decide), ab_upd_off _ _ (by decide), ab_upd_off _ _ (by decide)]
    exact ha j hj
  have hk : Q none τ := by
    refine k τ (fun q h3 h4 => ?_) ?_ ?_
    · rw [h1 q h4, ab_upd_off _ _ h3, ab_upd_off _ _ h3]
    · rw [h1 37 (by decide), ab_upd_eq, if_neg (by decide), ab_upd_same]
    · rw [h1 37 (by decide), ab_upd_same]
  have inner : ∀ (x3 : Int32), (∀ o4, ev mX6_lay 20 [some (.inr (.inr 37)), some (.inl 1), some (.inr (.inr 1)), some (.inl (x3 + 1)), o4] [] τ Q) → ∀ (d a : Nat), a + d = 8 → ev mX6_lay 28 [some (.inr (.inr 37)), some (.inl 1), some (.inr (.inr 1)), some (.inl x3), some (.inl (nI a))] [] τ Q := by
    intro x3 hx d
    induction d with
    | zero =>
      intro a h
      exact s_X6_lay_28 ⟨fun _ => hx _, fun h2 => absurd (nI_le (a := 8) (by omega) (by omega)) h2⟩
    | succ d ih =>
      intro a h
      refine s_X6_lay_28 ⟨fun h2 => absurd h2 (nI_ge (b := 8) (by omega) (by decide)), fun _ => ?_⟩
      refine ar_ok (by omega) ⟨_, rfl, ?_⟩
      rw [hA a (by omega)]
      refine lc_none ⟨rfl, ?_⟩
      rw [nI_1]
      exact ih (a + 1) (by omega)
  refine s_X6_lay_20 ⟨fun h => absurd h (by decide), fun _ => inner (-1) (fun o4 => ?_) 8 0 rfl⟩
  refine s_X6_lay_20 ⟨fun h => absurd h (by decide), fun _ => inner 0 (fun o4 => ?_) 8 0 rfl⟩
  exact s_X6_lay_20 ⟨fun _ => hk, fun h => absurd (by decide) h⟩
theorem p1_find_c {Q : Option ab_V → ab_M → Prop} {n : Int32} (h1 : ¬ n < 1) (h4 : n ≤ 4) (k : ∀ τ : ab_M, (∀ q, 50 ≤ q → τ q = si_m q) → Q (some (.inl 1)) τ) : evm mX7_find [.inr (.inr 0), .inl n] si_m Q := by
  refine s_X7_find_0 ?_
  refine s_X4_countAnew_0 ⟨rfl, fun h => absurd h h1, fun _ => ⟨fun _ => ?_, fun h => absurd h4 h⟩⟩
  refine s_X7_find_26 ⟨fun h => absurd h h1, fun _ => ?_⟩
  refine s_X4_begin_0 ?_
  refine la_none ?_ (fun τ g1 g2 g3 => ⟨rfl, by decide, ?_⟩)
  · intro j _
    rw [ab_upd_off _ _ (by decide), ab_upd_off _ _ (by decide)]
    rfl
  · refine s_X4_isSomeBroken_0 (s_X6_sizeLaid_0 ⟨_, rfl, ?_⟩)
    refine s_X4_isSomeBroken_10 (s_X2_count_0 ⟨_, rfl, ?_⟩)
    have hc : (ab_upd τ 48 (0 : Int32).toNatClampNeg (-1)) 5 1 = 0 := by
      rw [ab_upd_off _ _ (by decide), g1 5 (by decide) (by decide), ab_upd_off _ _ (by decide), ab_upd_off _ _ (by decide)]
      rfl
    have hr : (ab_upd τ 48 (0 : Int32).toNatClampNeg (-1)) 37 5 = 0 := by
      rw [ab_upd_off _ _ (by decide), g3]
    rw [hc]
    refine ⟨fun _ => ⟨_, rfl, fun _ => ?_, fun h => absurd rfl h⟩, fun h => absurd (by decide) h⟩
    refine s_X4_fill_0 (s_X4_fill_4 ⟨fun h => absurd h (by decide), fun _ => ⟨fun _ => ?_, fun h => absurd (by decide) h⟩⟩)
    refine s_X6_count_0 ⟨_, rfl, ?_⟩
    rw [hr]
    refine ⟨fun h => absurd h (by decide), fun _ => ⟨_, rfl, ⟨_, rfl, fun h => absurd h (by decide), fun _ => ⟨fun _ => ?_, fun h => absurd rfl h⟩⟩⟩⟩
    refine k _ (fun q hq => ?_)
    rw [ab_upd_off _ _ (by omega), ab_upd_off _ _ (by omega), ab_upd_off _ _ (by omega), g1 q (by omega) (by omega), ab_upd_off _ _ (by omega), ab_upd_off _ _ (by omega)]

/-- what value answers -/
def vaS (ar : Nat → Int32) (n : Nat) (V : Nat → Nat) (s x y : Int32) : Int32 := if s < 0 then -1 else if ar s.toNatClampNeg = -1 then -1 else if ar s.toNatClampNeg = 0 then dn (V (16 * s.toNatClampNeg)) else if x < 0 then -1 else if nI n ≤ x then -1 else if ar s.toNatClampNeg = 1 then dn (V (16 * s.toNatClampNeg + 4 * x.toNatClampNeg)) else if y < 0 then -1 else if nI n ≤ y then -1 else dn (V (16 * s.toNatClampNeg + 4 * x.toNatClampNeg + y.toNatClampNeg))
def vaR (ar : Nat → Int32) (o : Option (Nat × Bool × (Nat → Nat))) (s x y : Int32) : Int32 := match o with
  | none => -1
  | some (n, _, V) => vaS ar n V s x y
theorem nI_ar {x : Int32} {n : Nat} (n4 : n ≤ 4) (h1 : ¬ x < 0) (h2 : ¬ nI n ≤ x) : ∃ a, a < n ∧ x = nI a := by
  obtain ⟨a, ha, rfl⟩ := nI_of h1
  refine ⟨a, ?_, rfl⟩
  rcases Nat.lt_or_ge a n with g | g
  · exact g
  · exact absurd (nI_le g ha) h2
section VA2
variable {σ : ab_M} {Q : Option ab_V → ab_M → Prop} {m u : Nat} {b : Nat → Nat} {Lc : Nat → Nat} {Tc : Nat → Nat → Nat} {o : Option (Nat × Bool × (Nat → Nat))}
theorem vOf {V : Nat → Nat} {a : Nat} (hV : VVc V σ) (ha : a < 128) (k : Q (some (.inl (dn (V a)))) σ) : evm mX6_valueOf [.inr (.inr 37), .inl (nI a)] σ Q := by
  refine s_X6_valueOf_0 ⟨fun h => absurd h (nI_pos (by omega)), fun _ => ⟨fun _ => ⟨inN ha (by decide), ?_⟩, fun h => absurd (nI_lt (b := 128) ha (by omega)) h⟩⟩
  rw [nI_clamp (by omega), (hV a ha).1]
  exact k
theorem iaT {n a : Nat} (h8 : σ 0 8 = nI n) (n4 : n ≤ 4) (ha : a < n) (k : Q (some (.inl 1)) σ) : evm mX7_isArgument [.inr (.inr 0), .inl (nI a)] σ Q := by
  refine s_X7_isArgument_0 ⟨fun h => absurd h (nI_pos (by omega)), fun _ => ⟨fun h => ?_, fun _ => k⟩⟩
  rw [h8] at h
  exact absurd ((nI_leI (by omega) (by omega)).mp h) (by omega)
theorem iaF {n : Nat} {x : Int32} (h8 : σ 0 8 = nI n) (hx : x < 0 ∨ nI n ≤ x) (k : Q (some (.inl 0)) σ) : evm mX7_isArgument [.inr (.inr 0), .inl x] σ Q := by
  refine s_X7_isArgument_0 ⟨fun _ => k, fun h => ⟨fun _ => k, fun h2 => ?_⟩⟩
  rw [h8] at h2
  rcases hx with hx | hx
  · exact absurd hx h
  · exact absurd hx h2
theorem c2_value {c x y : Int32} (h : CP m u b Lc Tc o σ) (k : Q (some (.inl (vaR (σ 2) o (r_symbolOf σ c) x y))) σ) : evm mX7_value [.inr (.inr 0), .inl c, .inl x, .inl y] σ Q := by
  obtain ⟨hA, hC, hB, hCA, hO⟩ := h
  cases o with
  | none =>
    have e8 : σ 0 8 = 0 := hO
    exact s_X7_value_0 (x_codeOf σ c ⟨_, rfl, ar_s (fun r4 => ⟨_, rfl, fun _ => k, fun q => absurd e8 q⟩)⟩)
  | some q =>
    obtain ⟨n, fr, V⟩ := q
    obtain ⟨n1, n4, e8, hV, hb, _⟩ := hO
    have n0 : ¬ σ 0 8 = 0 := by rw [e8]; exact nI_ne0 n1 (by omega)
    refine s_X7_value_0 (x_codeOf σ c ⟨_, rfl, ?_⟩)
    have k : Q (some (.inl (vaS (σ 2) n V (r_symbolOf σ c) x y))) σ := k
    unfold vaS at k
    rcases sy_rel σ σ c with ⟨q1, q2⟩ | ⟨j, hj, e1, e2⟩
    · rw [if_pos q1] at k
      refine s_X5_arityOf_0 ⟨fun _ => ⟨_, rfl, fun q => absurd q n0, fun _ => ⟨fun _ => k, fun q => absurd rfl q⟩⟩, fun h1 => ⟨fun h2 => ?_, fun _ => ⟨_, rfl, fun q => absurd q n0, fun _ => ⟨fun _ => k, fun q => absurd rfl q⟩⟩⟩⟩
      exfalso
      rcases q2 with q2 | q2
      · exact h1 q2
      · rw [Int32.le_iff_toInt_le] at q2
        rw [Int32.lt_iff_toInt_lt] at h2
        omega
    · rw [e1, if_neg (nI_pos (by omega)), nI_clamp (by omega)] at k
      rw [e2]
      refine s_X5_arityOf_0 ⟨fun q => absurd q (nI_pos (by omega)), fun _ => ⟨fun _ => ⟨in8 hj, ?_⟩, fun q => absurd (nI_lt (b := 8) hj (by omega)) q⟩⟩
      rw [nI_clamp (by omega)]
      refine ⟨_, rfl, fun q => absurd q n0, fun _ => ?_⟩
      have fin : ∀ {a e : Nat}, a < n → e < n → Q (some (.inl (dn (V (16 * j + 4 * a + e))))) σ → evm mX7_isArgument [.inr (.inr 0), .inl (nI a)] σ (fun v τ5 => ∃ r6 : Int32, v = some (.inl r6) ∧ ((r6 = 0 → Q (some (.inl (-1))) τ5) ∧ (¬ r6 = 0 → evm mX7_isArgument [.inr (.inr 0), .inl (nI e)] τ5 (fun v τ7 => ∃ r8 : Int32, v = some (.inl r8) ∧ ((r8 = 0 → Q (some (.inl (-1))) τ7) ∧ (¬ r8 = 0 → evm mX6_cellOf [.inl (nI j), .inl (nI a), .inl (nI e)] τ7 (fun v τ9 => ∃ r10 : Int32, v = some (.inl r10) ∧ evm mX6_valueOf [.inr (.inr 37), .inl r10] τ9 (fun v τ11 => ∃ r12 : Int32, v = some (.inl r12) ∧ Q (some (.inl r12)) τ11)))))))) := by
        intro a e ha he kk
        refine iaT e8 n4 ha ⟨_, rfl, fun q => absurd q (by decide), fun _ => iaT e8 n4 he ⟨_, rfl, fun q => absurd q (by decide), fun _ => s_X6_cellOf_0 ⟨_, rfl, ?_⟩⟩⟩
        rw [cel_n]
        exact vOf hV (by omega) ⟨_, rfl, kk⟩
      have ba : ∀ {a e : Int32}, (a < 0 ∨ nI n ≤ a) → Q (some (.inl (-1))) σ → evm mX7_isArgument [.inr (.inr 0), .inl a] σ (fun v τ5 => ∃ r6 : Int32, v = some (.inl r6) ∧ ((r6 = 0 → Q (some (.inl (-1))) τ5) ∧ (¬ r6 = 0 → evm mX7_isArgument [.inr (.inr 0), .inl e] τ5 (fun v τ7 => ∃ r8 : Int32, v = some (.inl r8) ∧ ((r8 = 0 → Q (some (.inl (-1))) τ7) ∧ (¬ r8 = 0 → evm mX6_cellOf [.inl (nI j), .inl a, .inl e] τ7 (fun v τ9 => ∃ r10 : Int32, v = some (.inl r10) ∧ evm mX6_valueOf [.inr (.inr 37), .inl r10] τ9 (fun v τ11 => ∃ r12 : Int32, v = some (.inl r12) ∧ Q (some (.inl r12)) τ11)))))))) := fun hx kk => iaF e8 hx ⟨_, rfl, fun _ => kk, fun q => absurd rfl q⟩
      have be : ∀ {a : Nat} {e : Int32}, a < n → (e < 0 ∨ nI n ≤ e) → Q (some (.inl (-1))) σ → evm mX7_isArgument [.inr (.inr 0), .inl (nI a)] σ (fun v τ5 => ∃ r6 : Int32, v = some (.inl r6) ∧ ((r6 = 0 → Q (some (.inl (-1))) τ5) ∧ (¬ r6 = 0 → evm mX7_isArgument [.inr (.inr 0), .inl e] τ5 (fun v τ7 => ∃ r8 : Int32, v = some (.inl r8) ∧ ((r8 = 0 → Q (some (.inl (-1))) τ7) ∧ (¬ r8 = 0 → evm mX6_cellOf [.inl (nI j), .inl (nI a), .inl e] τ7 (fun v τ9 => ∃ r10 : Int32, v = some (.inl r10) ∧ evm mX6_valueOf [.inr (.inr 37), .inl r10] τ9 (fun v τ11 => ∃ r12 : Int32, v = some (.inl r12) ∧ Q (some (.inl r12)) τ11)))))))) := fun ha hx kk => iaT e8 n4 ha ⟨_, rfl, fun q => absurd q (by decide), fun _ => iaF e8 hx ⟨_, rfl, fun _ => kk, fun q => absurd rfl q⟩⟩
      have hr : arok (σ 2 j) := hA j hj
      generalize σ 2 j = r at hr k ⊢
      rcases hr with e | e | e | e
      · subst e
        exact ⟨fun _ => k, fun q => absurd rfl q⟩
      · subst e
        refine ⟨fun q => absurd q (by decide), fun _ => ⟨fun _ => ⟨fun _ => ?_, fun q => absurd (by decide) q⟩, fun q => absurd (by decide) q⟩⟩
        exact fin (a := 0) (e := 0) (by omega) (by omega) k
      · subst e
        refine ⟨fun q => absurd q (by decide), fun _ => ⟨fun q => absurd q (by decide), fun _ => ⟨fun _ => ?_, fun q => absurd (by decide) q⟩⟩⟩
        rw [if_neg (by decide), if_neg (by decide)] at k
        by_cases x0 : x < 0
        · rw [if_pos x0] at k
          exact ba (Or.inl x0) k
        · rw [if_neg x0] at k
          by_cases x1 : nI n ≤ x
          · rw [if_pos x1] at k
            exact ba (Or.inr x1) k
          · rw [if_neg x1, if_pos rfl] at k
            obtain ⟨a, ha, rfl⟩ := nI_ar n4 x0 x1
            rw [nI_clamp (by omega)] at k
            exact fin (a := a) (e := 0) ha (by omega) k
      · subst e
        refine ⟨fun q => absurd q (by decide), fun _ => ⟨fun q => absurd q (by decide), fun _ => ⟨fun q => absurd q (by decide), fun _ => ?_⟩⟩⟩
        rw [if_neg (by decide), if_neg (by decide)] at k
        by_cases x0 : x < 0
        · rw [if_pos x0] at k
          exact ba (Or.inl x0) k
        · rw [if_neg x0] at k
          by_cases x1 : nI n ≤ x
          · rw [if_pos x1] at k
            exact ba (Or.inr x1) k
          · rw [if_neg x1, if_neg (by decide)] at k
            obtain ⟨a, ha, rfl⟩ := nI_ar n4 x0 x1
            rw [nI_clamp (by omega)] at k
            by_cases y0 : y < 0
            · rw [if_pos y0] at k
              exact be ha (Or.inl y0) k
            · rw [if_neg y0] at k
              by_cases y1 : nI n ≤ y
              · rw [if_pos y1] at k
                exact be ha (Or.inr y1) k
              · rw [if_neg y1] at k
                obtain ⟨e, he, rfl⟩ := nI_ar n4 y0 y1
                rw [nI_clamp (by omega)] at k
                exact fin ha he k
theorem m2_value {c x y : Int32} (h : RP m u b Lc Tc o σ) (k : Q (some (.inl (vaR (σ 51) o (r_symbolOf σ c) x y))) σ) : evm mX8_value [.inr (.inr 50), .inl c, .inl x, .inl y] σ Q := by
  obtain ⟨hA, hC, hB, hO⟩ := h
  cases o with
  | none =>
    have e8 : σ 50 12 = 0 := hO
    exact s_X8_value_0 (x_symbolOf σ c ⟨_, rfl, fun _ => k, fun q => absurd e8 q⟩)
  | some q =>
    obtain ⟨n, fr, V⟩ := q
    obtain ⟨n1, n4, e12, e7, hV, hb, _⟩ := hO
    have n0 : ¬ σ 50 12 = 0 := by rw [e12]; decide
    refine s_X8_value_0 (x_symbolOf σ c ⟨_, rfl, fun q => absurd q n0, fun _ => ?_⟩)
    have k : Q (some (.inl (vaS (σ 51) n V (r_symbolOf σ c) x y))) σ := k
    unfold vaS at k
    rcases sy_rel σ σ c with ⟨q1, q2⟩ | ⟨j, hj, e1, e2⟩
    · rw [if_pos q1] at k
      exact ⟨fun _ => k, fun q => absurd q1 q⟩
    · rw [e1, if_neg (nI_pos (by omega)), nI_clamp (by omega)] at k
      rw [e1, e7, nI_clamp (by omega)]
      refine ⟨fun q => absurd q (nI_pos (by omega)), fun _ => ?_⟩
      have i8 := in8 hj
      have ea : ∀ a e : Nat, 16 * nI j + 4 * nI a + nI e = nI (16 * j + 4 * a + e) := by
        intro a e
        show nI 16 * nI j + nI 4 * nI a + nI e = _
        rw [pk_mul, pk_mul, nI_add, nI_add]
      have eb : ∀ a : Nat, 16 * nI j + 4 * nI a + 0 = nI (16 * j + 4 * a) := fun a => ea a 0
      have ec : 16 * nI j + 0 + 0 = nI (16 * j) := ea 0 0
      have vv : ∀ a, a < 128 → ab_in (nI a) 128 = true ∧ σ 55 (nI a).toNatClampNeg = dn (V a) := fun a ha => ⟨inN ha (by decide), by rw [nI_clamp (by omega)]; exact (hV a ha).1⟩
      rcases hA j hj with e | e | e | e
      · rw [e] at k ⊢
        exact ⟨i8, fun q => absurd q (by decide), fun _ => k⟩
      · rw [e] at k ⊢
        rw [ec]
        obtain ⟨w1, w2⟩ := vv (16 * j) (by omega)
        rw [w2]
        exact ⟨i8, fun _ => ⟨i8, fun _ => ⟨i8, fun _ => ⟨i8, fun _ => ⟨i8, fun _ => ⟨w1, k⟩, fun q => absurd (by decide) q⟩, fun q => absurd (by decide) q⟩, fun q => absurd (by decide) q⟩, fun q => absurd (by decide) q⟩, fun q => absurd (by decide) q⟩
      · rw [e] at k ⊢
        rw [if_neg (by decide), if_neg (by decide)] at k
        refine ⟨i8, fun _ => ⟨i8, fun q => absurd q (by decide), fun _ => ⟨fun q => ?_, fun a1 => ⟨fun q => ?_, fun a2 => ⟨i8, fun _ => ⟨i8, fun q => absurd q (by decide), fun _ => ⟨i8, fun _ => ?_, fun q => absurd (by decide) q⟩⟩, fun q => absurd (by decide) q⟩⟩⟩⟩, fun q => absurd (by decide) q⟩
        · rw [if_pos q] at k; exact k
        · rw [if_neg a1, if_pos q] at k; exact k
        · rw [if_neg a1, if_neg a2, if_pos rfl] at k
          obtain ⟨a, ha, rfl⟩ := nI_ar n4 a1 a2
          rw [nI_clamp (by omega)] at k
          rw [eb]
          obtain ⟨w1, w2⟩ := vv (16 * j + 4 * a) (by omega)
          rw [w2]
          exact ⟨w1, k⟩
      · rw [e] at k ⊢
        rw [if_neg (by decide), if_neg (by decide)] at k
        refine ⟨i8, fun _ => ⟨i8, fun q => absurd q (by decide), fun _ => ⟨fun q => ?_, fun a1 => ⟨fun q => ?_, fun a2 => ⟨i8, fun q => absurd q (by decide), fun _ => ⟨fun q => ?_, fun a3 => ⟨fun a4 => ⟨i8, fun q => absurd q (by decide), fun _ => ⟨i8, fun q => absurd q (by decide), fun _ => ?_⟩⟩, fun q => ?_⟩⟩⟩⟩⟩⟩, fun q => absurd (by decide) q⟩
        · rw [if_pos q] at k; exact k
        · rw [if_neg a1, if_pos q] at k; exact k
        · rw [if_neg a1, if_neg a2, if_neg (by decide), if_pos q] at k; exact k
        · have a5 : ¬ nI n ≤ y := by
            rw [Int32.lt_iff_toInt_lt] at a4
            rw [Int32.le_iff_toInt_le]
            omega
          rw [if_neg a1, if_neg a2, if_neg (by decide), if_neg a3, if_neg a5] at k
          obtain ⟨a, ha, rfl⟩ := nI_ar n4 a1 a2
          obtain ⟨d, hd, rfl⟩ := nI_ar n4 a3 a5
          rw [nI_clamp (by omega), nI_clamp (by omega)] at k
          rw [ea]
          obtain ⟨w1, w2⟩ := vv (16 * j + 4 * a + d) (by omega)
          rw [w2]
          exact ⟨w1, k⟩
        · have a5 : nI n ≤ y := by
            rw [Int32.lt_iff_toInt_lt] at q
            rw [Int32.le_iff_toInt_le]
            omega
          rw [if_neg a1, if_neg a2, if_neg (by decide), if_neg a3, if_pos a5] at k; exact k
end VA2

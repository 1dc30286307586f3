/-! the reference's looks at all instances -/
def hasc (T : Nat → Nat) (L ch : Nat) : Bool := (List.range L).any (fun t => decide (T t = ch))
theorem hasc_s (T : Nat → Nat) (L ch : Nat) : hasc T (L + 1) ch = (hasc T L ch || decide (T L = ch)) := by
  unfold hasc
  rw [List.range_succ, List.any_append]
  simp
def RT1 (i L : Nat) (T : Nat → Nat) (σ : ab_M) : Prop := L ≤ 60 ∧ σ 54 i = nI L ∧ (∀ t, t < L → σ 53 (60 * i + t) = nI (T t) ∧ T t < 256) ∧ aur (σ 51) T L 0 (-2) = none
theorem RT1.of {i L : Nat} {T : Nat → Nat} {σ τ : ab_M} (h : RT1 i L T σ) (h1 : τ 51 = σ 51) (h3 : τ 53 = σ 53) (h4 : τ 54 = σ 54) : RT1 i L T τ := by
  unfold RT1
  rw [h1, h3, h4]
  exact h
theorem RT1.km {i L : Nat} {T : Nat → Nat} {σ : ab_M} (h : RT1 i L T σ) : KM i σ := ⟨L, T, h⟩
def kx (Y Z k : Nat) : Nat := k / (Y * Z)
def ky (Y Z k : Nat) : Nat := k / Z % Y
def kz (Z k : Nat) : Nat := k % Z
def dkp (y z k : Nat) : Bool := decide (1 ≤ y ∧ 1 ≤ z → (nI k / (nI y * nI z) = nI (kx y z k) ∧ nI k / nI z - nI k / nI z / nI y * nI y = nI (ky y z k) ∧ nI k - nI k / nI z * nI z = nI (kz z k)))
theorem dk : ∀ y, y < 5 → ∀ z, z < 5 → ∀ k, k < 64 → dkp y z k = true := by decide +kernel
def dxp (X Y Z k : Nat) : Bool := decide (1 ≤ Y ∧ 1 ≤ Z ∧ k < X * Y * Z → (kx Y Z k < X ∧ ky Y Z k < Y ∧ kz Z k < Z))
theorem dx : ∀ X, X < 5 → ∀ Y, Y < 5 → ∀ Z, Z < 5 → ∀ k, k < 64 → dxp X Y Z k = true := by decide +kernel
def dyp (X Y Z x y z : Nat) : Bool := decide (x < X ∧ y < Y ∧ z < Z → ((x * Y + y) * Z + z < X * Y * Z ∧ kx Y Z ((x * Y + y) * Z + z) = x ∧ ky Y Z ((x * Y + y) * Z + z) = y ∧ kz Z ((x * Y + y) * Z + z) = z))
theorem dy : ∀ X, X < 5 → ∀ Y, Y < 5 → ∀ Z, Z < 5 → ∀ x, x < 4 → ∀ y, y < 4 → ∀ z, z < 4 → dyp X Y Z x y z = true := by decide +kernel
section RB
variable {σ : ab_M} {Q : Option ab_V → ab_M → Prop}
theorem hs_f {i L ch : Nat} {T : Nat → Nat} (hi : i < 9) (hch : ch < 2 ^ 31) (hK : RT1 i L T σ) (k : Q (some (.inl (bI (hasc T L ch)))) σ) : evm mX8_has [.inr (.inr 50), .inl (nI i), .inl (nI ch)] σ Q := by
  obtain ⟨hL, h4, h3, ha⟩ := hK
  have e60 : 60 * nI i = nI (60 * i) := pk_mul 60 i
  have ee : 60 * nI i + σ 54 (nI i).toNatClampNeg = nI (60 * i + L) := by rw [nI_clamp (by omega), h4]; exact i60
  have loop : ∀ (d a : Nat), a + d = L → ev mX8_has 8 [some (.inr (.inr 50)), some (.inl (nI i)), some (.inl (nI ch)), some (.inl (bI (hasc T a ch))), some (.inl (nI (60 * i + a)))] [] σ Q := by
    intro d
    induction d with
    | zero =>
      intro a h
      have e : a = L := by omega
      subst e
      refine s_X8_has_8 ⟨inN hi (by decide), fun _ => ⟨?_, k⟩, fun q => absurd (by rw [ee]; exact nI_le (by omega) (by omega)) q⟩
      cases hasc T a ch <;> decide
    | succ d ih =>
      intro a h
      have n1 : nI (60 * i + a) + 1 = nI (60 * i + (a + 1)) := nI_1 _
      have ih1 := ih (a + 1) (by omega)
      rw [hasc_s] at ih1
      refine s_X8_has_8 ⟨inN hi (by decide), fun q => ?_, fun _ => ?_⟩
      · rw [ee] at q
        exact absurd ((nI_leI (by omega) (by omega)).mp q) (by omega)
      · rw [n1, nI_clamp (by omega), (h3 a (by omega)).1]
        have t256 := (h3 a (by omega)).2
        have ec : nI (T a) = nI ch ↔ T a = ch := nI_eq (by omega) hch
        revert ih1
        cases hasc T a ch with
        | true => exact fun ih1 => ⟨fun q => absurd q (by decide), fun _ => ih1⟩
        | false =>
          intro ih1
          refine ⟨fun _ => ⟨inN (by omega) (by decide), fun q => ?_, fun q => ?_⟩, fun q => absurd rfl q⟩
          · rw [decide_eq_true (ec.mp q)] at ih1
            exact ih1
          · rw [decide_eq_false (fun x => q (ec.mpr x))] at ih1
            exact ih1
  refine s_X8_has_0 ?_
  rw [e60]
  exact loop L 0 (by omega)
/-- breaks: the first broken choice, if any -/
theorem brk_f {V T : Nat → Nat} {i n L : Nat} (hi : i < 9) (hA : AR σ) (hK : RT1 i L T σ) (hV : VVr V σ) (hPr : ∀ k, 64 ≤ k → k < 128 → V k ≤ 2) (hn : σ 50 7 = nI n) (n1 : 1 ≤ n) (n4 : n ≤ 4)
    (k0 : ∀ τ, fB σ τ → (∀ k, k < chz T L 0 n * chz T L 1 n * chz T L 2 n → (lk V (σ 51) T (nm (kx (chz T L 1 n) (chz T L 2 n) k) (ky (chz T L 1 n) (chz T L 2 n) k) (kz (chz T L 2 n) k)) L [] false).1 = false) → Q (some (.inl 0)) τ)
    (k1 : ∀ τ, fB σ τ → ∀ k, k < chz T L 0 n * chz T L 1 n * chz T L 2 n → (lk V (σ 51) T (nm (kx (chz T L 1 n) (chz T L 2 n) k) (ky (chz T L 1 n) (chz T L 2 n) k) (kz (chz T L 2 n) k)) L [] false).1 = true → (∀ j, j < k → (lk V (σ 51) T (nm (kx (chz T L 1 n) (chz T L 2 n) j) (ky (chz T L 1 n) (chz T L 2 n) j) (kz (chz T L 2 n) j)) L [] false).1 = false) → (∀ v, v < 3 → τ 59 v = nI (nm (kx (chz T L 1 n) (chz T L 2 n) k) (ky (chz T L 1 n) (chz T L 2 n) k) (kz (chz T L 2 n) k) v)) → Q (some (.inl 1)) τ) : evm mX8_breaks [.inr (.inr 50), .inl (nI i)] σ Q := by
  have X4 : chz T L 0 n ≤ n := chz_le n1
  have Y4 : chz T L 1 n ≤ n := chz_le n1
  have Z4 : chz T L 2 n ≤ n := chz_le n1
  have g1 : ∀ v, 1 ≤ chz T L v n := by
    intro v
    unfold chz
    cases hasv T L v with
    | false => exact Nat.le_refl _
    | true => exact n1
  have Y1 := g1 1
  have Z1 := g1 2
  have go : ev mX8_breaks 61 [some (.inr (.inr 50)), some (.inl (nI i)), some (.inl (nI (chz T L 0 n))), some (.inl (nI (chz T L 1 n))), some (.inl (nI (chz T L 2 n))), some (.inl (nI 0))] [] σ Q := by
    revert k0 k1 Y1 Z1 X4 Y4 Z4
    generalize chz T L 0 n = X
    generalize chz T L 1 n = Y
    generalize chz T L 2 n = Z
    intro k0 k1 X4 Y4 Z4 Y1 Z1
    have b1 : X * Y ≤ 4 * 4 := Nat.mul_le_mul (by omega) (by omega)
    have b2 : X * Y * Z ≤ 4 * 4 * 4 := Nat.mul_le_mul b1 (by omega)
    have b3 : Y * Z ≤ 4 * 4 := Nat.mul_le_mul (by omega) (by omega)
    have b4 : 1 * 1 ≤ Y * Z := Nat.mul_le_mul Y1 Z1
    have loop : ∀ (d a : Nat) (τ : ab_M), a + d = X * Y * Z → fB σ τ → (∀ j, j < a → (lk V (σ 51) T (nm (kx Y Z j) (ky Y Z j) (kz Z j)) L [] false).1 = false) → ev mX8_breaks 61 [some (.inr (.inr 50)), some (.inl (nI i)), some (.inl (nI X)), some (.inl (nI Y)), some (.inl (nI Z)), some (.inl (nI a))] [] τ Q := by
      intro d
      induction d with
      | zero =>
        intro a τ ha f hj
        refine s_n_X8_breaks_61 ⟨fun _ => k0 τ f (fun k hk => hj k (by omega)), fun q => absurd ?_ q⟩
        rw [pk_mul, pk_mul]
        exact nI_le (by omega) (by omega)
      | succ d ih =>
        intro a τ ha f hj
        obtain ⟨e1, e2, e3⟩ := of_decide_eq_true (dk Y (by omega) Z (by omega) a (by omega)) ⟨Y1, Z1⟩
        obtain ⟨x4, y4, z4⟩ := of_decide_eq_true (dx X (by omega) Y (by omega) Z (by omega) a (by omega)) ⟨Y1, Z1, by omega⟩
        refine s_n_X8_breaks_61 ⟨fun q => ?_, fun _ => ⟨?_, by decide, fun τ1 d1 => ⟨nI_ne0 Z1 (by omega), nI_ne0 Y1 (by omega), by decide, fun τ2 d2 => ⟨nI_ne0 Z1 (by omega), by decide, fun τ3 d3 => ?_⟩⟩⟩⟩
        · rw [pk_mul, pk_mul] at q
          exact absurd ((nI_leI (by omega) (by omega)).mp q) (by omega)
        · rw [pk_mul]
          exact nI_ne0 (by omega) (by omega)
        · rw [e1] at d1
          rw [e2] at d2
          rw [e3] at d3
          have f3 : fB σ τ3 := by rw [d3, d2, d1]; exact f.u59.u59.u59
          have N3 : ∀ v, v < 3 → τ3 59 v = nI (nm (kx Y Z a) (ky Y Z a) (kz Z a) v) ∧ nm (kx Y Z a) (ky Y Z a) (kz Z a) v < 4 := by
            intro v hv
            rcases (by omega : v = 0 ∨ v = 1 ∨ v = 2) with rfl | rfl | rfl
            · refine ⟨?_, by show kx Y Z a < 4; omega⟩
              rw [d3, ab_upd_eq, if_neg (by decide), d2, ab_upd_eq, if_neg (by decide), d1]
              exact ab_upd_same _ _ _ _
            · refine ⟨?_, by show ky Y Z a < 4; omega⟩
              rw [d3, ab_upd_eq, if_neg (by decide), d2]
              exact ab_upd_same _ _ _ _
            · refine ⟨?_, by show kz Z a < 4; omega⟩
              rw [d3]
              exact ab_upd_same _ _ _ _
          have a51 : τ3 51 = σ 51 := f3.1 51 (by decide) (by decide) (by decide)
          have hK3 : RT1 i L T τ3 := hK.of a51 (f3.1 53 (by decide) (by decide) (by decide)) (f3.1 54 (by decide) (by decide) (by decide))
          refine bk_f (V := V) hi (hA.mv f3) hK3.1 hK3.2.1 hK3.2.2.1 hK3.2.2.2 N3 (fun j hj2 => by rw [f3.1 55 (by decide) (by decide) (by decide)]; exact hV j hj2) hPr (fun υ fu => ⟨_, rfl, ?_⟩)
          rw [a51]
          have fu2 := f3.tr (fB.of fu)
          cases hb : (lk V (σ 51) T (nm (kx Y Z a) (ky Y Z a) (kz Z a)) L [] false).1 with
          | false =>
            refine ⟨fun _ => ?_, fun q => absurd rfl q⟩
            rw [nI_1]
            refine ih (a + 1) υ (by omega) fu2 (fun j hj2 => ?_)
            by_cases e : j = a
            · rw [e]; exact hb
            · exact hj j (by omega)
          | true => exact ⟨fun q => absurd q (by decide), fun _ => k1 υ fu2 a (by omega) hb hj (fun v hv => by rw [fu.1 59 (by decide) (by decide)]; exact (N3 v hv).1)⟩
    exact loop (X * Y * Z) 0 σ (by omega) fB.rf (fun j hj => by omega)
  have hx : ∀ v, hasc T L (120 + v) = hasv T L v := fun v => rfl
  have e0 : ∀ v, hasv T L v = false → chz T L v n = 1 := fun v h => by unfold chz; rw [h]; rfl
  have e1 : ∀ v, hasv T L v = true → chz T L v n = n := fun v h => by unfold chz; rw [h]; rfl
  refine s_n_X8_breaks_0 (hs_f (ch := 120) hi (by decide) hK ⟨_, rfl, ?_⟩)
  have h1 : hasc T L 120 = hasv T L 0 := rfl
  have h2 : hasc T L 121 = hasv T L 1 := rfl
  have h3 : hasc T L 122 = hasv T L 2 := rfl
  rw [h1]
  cases q0 : hasv T L 0 with
  | false =>
    rw [e0 0 q0] at go
    refine ⟨fun _ => hs_f (ch := 121) hi (by decide) hK ⟨_, rfl, ?_⟩, fun q => absurd rfl q⟩
    rw [h2]
    cases q1 : hasv T L 1 with
    | false =>
      rw [e0 1 q1] at go
      refine ⟨fun _ => hs_f (ch := 122) hi (by decide) hK ⟨_, rfl, ?_⟩, fun q => absurd rfl q⟩
      rw [h3]
      cases q2 : hasv T L 2 with
      | false => rw [e0 2 q2] at go; exact ⟨fun _ => go, fun q => absurd rfl q⟩
      | true => rw [e1 2 q2] at go; rw [hn]; exact ⟨fun q => absurd q (by decide), fun _ => go⟩
    | true =>
      rw [e1 1 q1] at go
      rw [hn]
      refine ⟨fun q => absurd q (by decide), fun _ => hs_f (ch := 122) hi (by decide) hK ⟨_, rfl, ?_⟩⟩
      rw [h3]
      cases q2 : hasv T L 2 with
      | false => rw [e0 2 q2] at go; exact ⟨fun _ => go, fun q => absurd rfl q⟩
      | true => rw [e1 2 q2] at go; rw [hn]; exact ⟨fun q => absurd q (by decide), fun _ => go⟩
  | true =>
    rw [e1 0 q0] at go
    rw [hn]
    refine ⟨fun q => absurd q (by decide), fun _ => hs_f (ch := 121) hi (by decide) hK ⟨_, rfl, ?_⟩⟩
    rw [h2]
    cases q1 : hasv T L 1 with
    | false =>
      rw [e0 1 q1] at go
      refine ⟨fun _ => hs_f (ch := 122) hi (by decide) hK ⟨_, rfl, ?_⟩, fun q => absurd rfl q⟩
      rw [h3]
      cases q2 : hasv T L 2 with
      | false => rw [e0 2 q2] at go; exact ⟨fun _ => go, fun q => absurd rfl q⟩
      | true => rw [e1 2 q2] at go; rw [hn]; exact ⟨fun q => absurd q (by decide), fun _ => go⟩
    | true =>
      rw [e1 1 q1] at go
      refine ⟨fun q => absurd q (by decide), fun _ => hs_f (ch := 122) hi (by decide) hK ⟨_, rfl, ?_⟩⟩
      rw [h3]
      cases q2 : hasv T L 2 with
      | false => rw [e0 2 q2] at go; rw [hn]; exact ⟨fun _ => go, fun q => absurd rfl q⟩
      | true => rw [e1 2 q2] at go; rw [hn]; exact ⟨fun q => absurd q (by decide), fun _ => go⟩
end RB

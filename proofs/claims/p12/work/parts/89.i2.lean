/-! the reference's walk is the same search -/
def RT (m : Nat) (Lc : Nat → Nat) (Tc : Nat → Nat → Nat) (σ : ab_M) : Prop := m ≤ 8 ∧ σ 50 5 = nI m ∧ ∀ i, i < m → RT1 i (Lc i) (Tc i) σ
def OR (n : Nat) (ord : Nat → Nat) (c : Nat) (σ : ab_M) : Prop := σ 50 7 = nI n ∧ σ 50 8 = nI c ∧ ∀ k, k < c → σ 56 k = nI (ord k / 16) ∧ σ 57 k = nI (ord k % 16 / 4) ∧ σ 58 k = nI (ord k % 4)
/-- some choice of one clause is broken -/
def badC (ar : Nat → Int32) (Lc : Nat → Nat) (Tc : Nat → Nat → Nat) (n i : Nat) (V : Nat → Nat) : Bool := (List.range (chz (Tc i) (Lc i) 0 n)).any (fun x => (List.range (chz (Tc i) (Lc i) 1 n)).any (fun y => (List.range (chz (Tc i) (Lc i) 2 n)).any (fun z => brk ar Lc Tc i x y z V)))
theorem badC_t {ar : Nat → Int32} {Lc : Nat → Nat} {Tc : Nat → Nat → Nat} {n i : Nat} {V : Nat → Nat} : badC ar Lc Tc n i V = true ↔ ∃ x y z, x < chz (Tc i) (Lc i) 0 n ∧ y < chz (Tc i) (Lc i) 1 n ∧ z < chz (Tc i) (Lc i) 2 n ∧ brk ar Lc Tc i x y z V = true := by
  unfold badC
  simp only [List.any_eq_true, List.mem_range]
  constructor
  · rintro ⟨x, h2, y, h3, z, h4, h5⟩
    exact ⟨x, y, z, h2, h3, h4, h5⟩
  · rintro ⟨x, y, z, h2, h3, h4, h5⟩
    exact ⟨x, h2, y, h3, z, h4, h5⟩
/-- the letters of the symbols that a text has -/
def ltr (s : Nat) : Nat := if s < 4 then 97 + s else 76 + s
theorem ltr_sy : ∀ s, s < 8 → sy (ltr s) = s ∧ ltr s < 256 := by decide +kernel
theorem sy_ltr : ∀ b, b < 256 → sy b < 8 → ltr (sy b) = b := by decide +kernel
def smB (ar : Nat → Int32) (Lc : Nat → Nat) (Tc : Nat → Nat → Nat) (n : Nat) (so : Option Nat) (V : Nat → Nat) (i : Nat) : Bool := match so with
  | none => badC ar Lc Tc n i V
  | some s => hasc (Tc i) (Lc i) (ltr s) && badC ar Lc Tc n i V
def soI (so : Option Nat) : Int32 := match so with
  | none => -1
  | some s => nI s
section SM
variable {σ : ab_M} {Q : Option ab_V → ab_M → Prop}
theorem bc_f {V : Nat → Nat} {Lc : Nat → Nat} {Tc : Nat → Nat → Nat} {i n : Nat} (hi : i < 9) (hA : AR σ) (hK : RT1 i (Lc i) (Tc i) σ) (hV : VVr V σ) (hPr : ∀ k, 64 ≤ k → k < 128 → V k ≤ 2) (hn : σ 50 7 = nI n) (n1 : 1 ≤ n) (n4 : n ≤ 4) (k : ∀ τ, fB σ τ → Q (some (.inl (bI (badC (σ 51) Lc Tc n i V)))) τ) : evm mX8_breaks [.inr (.inr 50), .inl (nI i)] σ Q := by
  have X4 : chz (Tc i) (Lc i) 0 n ≤ n := chz_le n1
  have Y4 : chz (Tc i) (Lc i) 1 n ≤ n := chz_le n1
  have Z4 : chz (Tc i) (Lc i) 2 n ≤ n := chz_le n1
  have g1 : ∀ v, 1 ≤ chz (Tc i) (Lc i) v n := by
    intro v
    unfold chz
    cases hasv (Tc i) (Lc i) v with
    | false => exact Nat.le_refl _
    | true => exact n1
  refine brk_f hi hA hK hV hPr hn n1 n4 (fun τ f h => ?_) (fun τ f j hj hb _ _ => ?_)
  · have e : badC (σ 51) Lc Tc n i V = false := by
      cases q : badC (σ 51) Lc Tc n i V with
      | false => rfl
      | true =>
        obtain ⟨x, y, z, h1, h2, h3, h4⟩ := badC_t.mp q
        obtain ⟨w1, w2, w3, w4⟩ := of_decide_eq_true (dy _ (by omega : chz (Tc i) (Lc i) 0 n < 5) _ (by omega : chz (Tc i) (Lc i) 1 n < 5) _ (by omega : chz (Tc i) (Lc i) 2 n < 5) x (by omega) y (by omega) z (by omega)) ⟨h1, h2, h3⟩
        have := h _ w1
        rw [w2, w3, w4] at this
        exact absurd h4 (by unfold brk; rw [this]; decide)
    have := k τ f
    rw [e] at this
    exact this
  · have b1 : chz (Tc i) (Lc i) 0 n * chz (Tc i) (Lc i) 1 n ≤ 4 * 4 := Nat.mul_le_mul (by omega) (by omega)
    have b2 : chz (Tc i) (Lc i) 0 n * chz (Tc i) (Lc i) 1 n * chz (Tc i) (Lc i) 2 n ≤ 4 * 4 * 4 := Nat.mul_le_mul b1 (by omega)
    obtain ⟨w1, w2, w3⟩ := of_decide_eq_true (dx _ (by omega : chz (Tc i) (Lc i) 0 n < 5) _ (by omega : chz (Tc i) (Lc i) 1 n < 5) _ (by omega : chz (Tc i) (Lc i) 2 n < 5) j (by omega)) ⟨g1 1, g1 2, hj⟩
    have e : badC (σ 51) Lc Tc n i V = true := badC_t.mpr ⟨_, _, _, w1, w2, w3, hb⟩
    have := k τ f
    rw [e] at this
    exact this
theorem RT.mv {m : Nat} {Lc : Nat → Nat} {Tc : Nat → Nat → Nat} {τ : ab_M} (h : RT m Lc Tc σ) (f5 : τ 50 5 = σ 50 5) (f1 : τ 51 = σ 51) (f3 : τ 53 = σ 53) (f4 : τ 54 = σ 54) : RT m Lc Tc τ := ⟨h.1, by rw [f5]; exact h.2.1, fun i hi => (h.2.2 i hi).of f1 f3 f4⟩
theorem RT.mb {m : Nat} {Lc : Nat → Nat} {Tc : Nat → Nat → Nat} {τ : ab_M} (h : RT m Lc Tc σ) (f : fB σ τ) : RT m Lc Tc τ := h.mv (f.2 5 (by decide)) (f.1 _ (by decide) (by decide) (by decide)) (f.1 _ (by decide) (by decide) (by decide)) (f.1 _ (by decide) (by decide) (by decide))
theorem sm_f {V : Nat → Nat} {Lc : Nat → Nat} {Tc : Nat → Nat → Nat} {m n : Nat} {so : Option Nat} (hso : ∀ s, so = some s → s < 8) (hA : AR σ) (hT : RT m Lc Tc σ) (hV : VVr V σ) (hPr : ∀ k, 64 ≤ k → k < 128 → V k ≤ 2) (hn : σ 50 7 = nI n) (n1 : 1 ≤ n) (n4 : n ≤ 4) (k : ∀ τ, fB σ τ → Q (some (.inl (bI ((List.range m).any (smB (σ 51) Lc Tc n so V))))) τ) : evm mX8_someBreaks [.inr (.inr 50), .inl (soI so)] σ Q := by
  have fin : ∀ (b : Bool) τ, fB σ τ → (List.range m).any (smB (σ 51) Lc Tc n so V) = b → Q (some (.inl (bI b))) τ := fun b τ f e => by
    have := k τ f
    rw [e] at this
    exact this
  have anyS : ∀ a, (List.range (a + 1)).any (smB (σ 51) Lc Tc n so V) = ((List.range a).any (smB (σ 51) Lc Tc n so V) || smB (σ 51) Lc Tc n so V a) := by
    intro a
    rw [List.range_succ, List.any_append]
    simp
  have anyT : ∀ d a, (List.range a).any (smB (σ 51) Lc Tc n so V) = true → (List.range (a + d)).any (smB (σ 51) Lc Tc n so V) = true := by
    intro d
    induction d with
    | zero => exact fun a h => h
    | succ d ih =>
      intro a h
      rw [show a + (d + 1) = (a + d) + 1 from rfl, anyS, ih a h]
      rfl
  have loop : ∀ (d a : Nat) (b : Bool) (τ : ab_M), a + d = m → (List.range a).any (smB (σ 51) Lc Tc n so V) = b → fB σ τ → ev mX8_someBreaks 4 [some (.inr (.inr 50)), some (.inl (soI so)), some (.inl (bI b)), some (.inl (nI a))] [] τ Q := by
    intro d
    induction d with
    | zero =>
      intro a b τ ha hb f
      have hm := hT.1
      have e : a = m := by omega
      rw [e] at hb
      refine s_X8_someBreaks_4 ⟨fun _ => ⟨by cases b <;> decide, fin b τ f hb⟩, fun q => absurd (by rw [(hT.mb f).2.1]; exact nI_le (by omega) (by omega)) q⟩
    | succ d ih =>
      intro a b τ ha hb f
      have hm := hT.1
      refine s_X8_someBreaks_4 ⟨fun q => ?_, fun _ => ?_⟩
      · rw [(hT.mb f).2.1] at q
        exact absurd ((nI_leI (by omega) (by omega)).mp q) (by omega)
      cases b with
      | true => exact ⟨fun q => absurd q (by decide), fun _ => ⟨by decide, fin true τ f (by have := anyT (d + 1) a hb; rw [show a + (d + 1) = m from by omega] at this; exact this)⟩⟩
      | false =>
        refine ⟨fun _ => ?_, fun q => absurd rfl q⟩
        rw [nI_1]
        have a51 : τ 51 = σ 51 := f.1 51 (by decide) (by decide) (by decide)
        have nn : τ 50 7 = nI n := by rw [f.2 7 (by decide)]; exact hn
        have hK := (hT.mb f).2.2 a (by omega)
        have hV2 : VVr V τ := fun j hj => by rw [f.1 55 (by decide) (by decide) (by decide)]; exact hV j hj
        have nx : ∀ v : Bool, smB (σ 51) Lc Tc n so V a = v → (List.range (a + 1)).any (smB (σ 51) Lc Tc n so V) = v := fun v hv => by rw [anyS, hb, hv]; rfl
        have brs : ∀ g : Bool, (g = true → smB (σ 51) Lc Tc n so V a = badC (σ 51) Lc Tc n a V) → g = true → evm mX8_breaks [.inr (.inr 50), .inl (nI a)] τ (fun v τ1 => ∃ r2 : Int32, v = some (.inl r2) ∧ ((r2 = 0 → ev mX8_someBreaks 4 [some (.inr (.inr 50)), some (.inl (soI so)), some (.inl 0), some (.inl (nI (a + 1)))] [] τ1 Q) ∧ (¬ r2 = 0 → ev mX8_someBreaks 4 [some (.inr (.inr 50)), some (.inl (soI so)), some (.inl 1), some (.inl (nI (a + 1)))] [] τ1 Q))) := by
          intro g hg1 hg
          refine bc_f (V := V) (Lc := Lc) (Tc := Tc) (by omega) (hA.mv f) hK hV2 hPr nn n1 n4 (fun υ fu => ⟨_, rfl, ?_⟩)
          rw [a51]
          have e := hg1 hg
          cases q : badC (σ 51) Lc Tc n a V with
          | false =>
            rw [q] at e
            exact ⟨fun _ => ih (a + 1) false υ (by omega) (nx false e) (f.tr fu), fun q2 => absurd rfl q2⟩
          | true =>
            rw [q] at e
            exact ⟨fun q2 => absurd q2 (by decide), fun _ => ih (a + 1) true υ (by omega) (nx true e) (f.tr fu)⟩
        cases so with
        | none => exact ⟨fun _ => brs true (fun _ => rfl) rfl, fun q => absurd (by decide) q⟩
        | some s =>
          have s8 := hso s rfl
          refine ⟨fun q => absurd q (nI_pos (by omega)), fun _ => ?_⟩
          have rest : evm mX8_has [.inr (.inr 50), .inl (nI a), .inl (nI (ltr s))] τ (fun v τ3 => ∃ r4 : Int32, v = some (.inl r4) ∧ ((r4 = 0 → ev mX8_someBreaks 4 [some (.inr (.inr 50)), some (.inl (soI (some s))), some (.inl 0), some (.inl (nI (a + 1)))] [] τ3 Q) ∧ (¬ r4 = 0 → evm mX8_breaks [.inr (.inr 50), .inl (nI a)] τ3 (fun v τ5 => ∃ r6 : Int32, v = some (.inl r6) ∧ ((r6 = 0 → ev mX8_someBreaks 4 [some (.inr (.inr 50)), some (.inl (soI (some s))), some (.inl 0), some (.inl (nI (a + 1)))] [] τ5 Q) ∧ (¬ r6 = 0 → ev mX8_someBreaks 4 [some (.inr (.inr 50)), some (.inl (soI (some s))), some (.inl 1), some (.inl (nI (a + 1)))] [] τ5 Q)))))) := by
            refine hs_f (by omega) (by have := (ltr_sy s s8).2; omega) hK ⟨_, rfl, ?_⟩
            cases q : hasc (Tc a) (Lc a) (ltr s) with
            | false => exact ⟨fun _ => ih (a + 1) false τ (by omega) (nx false (by show (hasc (Tc a) (Lc a) (ltr s) && _) = false; rw [q]; rfl)) f, fun q2 => absurd rfl q2⟩
            | true => exact ⟨fun q2 => absurd q2 (by decide), fun _ => brs true (fun _ => by show (hasc (Tc a) (Lc a) (ltr s) && _) = _; rw [q]; rfl) rfl⟩
          have l4 : 4 ≤ nI s ↔ 4 ≤ s := nI_leI (a := 4) (by decide) (by omega)
          refine s_X8_letterOf_0 ⟨fun q => ⟨_, rfl, ?_⟩, fun q => ⟨_, rfl, ?_⟩⟩
          · have h4 := l4.mp q
            have e : (80 + soI (some s)) - 4 = nI (ltr s) := by
              unfold ltr
              rw [if_neg (by omega)]
              show (nI 80 + nI s) - nI 4 = _
              rw [nI_add, show 80 + s = (76 + s) + 4 from by omega, ← nI_add]
              exact Int32.add_sub_cancel _ _
            rw [e]
            exact rest
          · have h4 : ¬ 4 ≤ s := fun x => q (l4.mpr x)
            have e : 97 + soI (some s) = nI (ltr s) := by
              unfold ltr
              rw [if_pos (by omega)]
              show nI 97 + nI s = _
              rw [nI_add]
            rw [e]
            exact rest
  exact s_X8_someBreaks_0 (loop m 0 false σ (by omega) rfl fB.rf)
end SM

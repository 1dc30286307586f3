/-! the reference's looks return -/
def VI (σ : ab_M) : Prop := ∀ k, k < 128 → (σ 55 k).toInt ≤ 3
def NI (σ : ab_M) : Prop := ∀ k, k < 3 → (σ 59 k).toInt ≤ 3
def PI (h : Nat) (σ : ab_M) : Prop := σ 50 18 = nI h ∧ h ≤ 61 ∧ ∀ t, t < h → (σ 61 t).toInt ≤ 3
def fP (σ τ : ab_M) : Prop := (∀ z, z ≠ 50 → z ≠ 61 → τ z = σ z) ∧ (∀ t, t ≠ 18 → τ 50 t = σ 50 t)
theorem fP.rf {σ : ab_M} : fP σ σ := ⟨fun _ _ _ => rfl, fun _ _ => rfl⟩
theorem fP.tr {σ τ υ : ab_M} (h1 : fP σ τ) (h2 : fP τ υ) : fP σ υ := ⟨fun z a b => (h2.1 z a b).trans (h1.1 z a b), fun t a => (h2.2 t a).trans (h1.2 t a)⟩
theorem fP.u50 {σ τ : ab_M} (h : fP σ τ) {v : Int32} : fP σ (ab_upd τ 50 18 v) := ⟨fun z a b => by rw [ab_upd_off _ _ a]; exact h.1 z a b, fun t a => by rw [ab_upd_eq, if_neg (by omega)]; exact h.2 t a⟩
theorem fP.u61 {σ τ : ab_M} (h : fP σ τ) {k : Nat} {v : Int32} : fP σ (ab_upd τ 61 k v) := ⟨fun z a b => by rw [ab_upd_off _ _ b]; exact h.1 z a b, fun t a => by rw [ab_upd_off _ _ (by decide)]; exact h.2 t a⟩
theorem VI.mv {σ τ : ab_M} (h : VI σ) (f : fP σ τ) : VI τ := fun k hk => by rw [f.1 55 (by decide) (by decide)]; exact h k hk
theorem NI.mv {σ τ : ab_M} (h : NI σ) (f : fP σ τ) : NI τ := fun k hk => by rw [f.1 59 (by decide) (by decide)]; exact h k hk
theorem PI.pop {σ : ab_M} {h : Nat} (p : PI (h + 1) σ) : PI h (ab_upd σ 50 18 (σ 50 18 - 1)) := ⟨by rw [ab_upd_same, p.1]; exact nI_pred h, by have := p.2.1; omega, fun t ht => by rw [ab_upd_off _ _ (by decide)]; exact p.2.2 t (by omega)⟩
theorem PI.push {σ σ1 σ2 : ab_M} {h : Nat} {v : Int32} (p : PI h σ) (hh : h ≤ 60) (hv : v.toInt ≤ 3) (e1 : σ1 = ab_upd σ 61 (σ 50 18).toNatClampNeg v) (e2 : σ2 = ab_upd σ1 50 18 (σ1 50 18 + 1)) : PI (h + 1) σ2 := by
  subst e1
  subst e2
  refine ⟨?_, by omega, fun t ht => ?_⟩
  · rw [ab_upd_same, ab_upd_off _ _ (by decide), p.1]; exact nI_1 h
  · rw [ab_upd_off _ _ (by decide), ab_upd_eq, p.1, nI_clamp (by omega)]
    by_cases e : t = h
    · rw [if_pos ⟨rfl, e⟩]; exact hv
    · rw [if_neg (fun q => e q.2)]; exact p.2.2 t (by omega)
theorem fP.push {ρ σ σ1 σ2 : ab_M} {v : Int32} (f : fP ρ σ) (e1 : σ1 = ab_upd σ 61 (σ 50 18).toNatClampNeg v) (e2 : σ2 = ab_upd σ1 50 18 (σ1 50 18 + 1)) : fP ρ σ2 := by
  subst e1
  subst e2
  exact f.u61.u50
theorem v4 {x : Int32} (h1 : ¬ x < 0) (h2 : x.toInt ≤ 3) : ∃ v : Nat, v ≤ 3 ∧ x = nI v := by
  obtain ⟨v, hv, rfl⟩ := nI_of h1
  rw [nI_toInt hv] at h2
  exact ⟨v, by omega, rfl⟩
section CE
variable {σ : ab_M} {Q : Option ab_V → ab_M → Prop}
theorem ce_s {s w h : Nat} (hs : s < 8) (hw : w ≤ 2) (ha : σ 51 s = nI w) (hh : w ≤ h) (hP : PI h σ) (hV : VI σ) (k : ∀ (r : Int32) τ, r.toInt ≤ 3 → PI (h - w) τ → fP σ τ → Q (some (.inl r)) τ) : evm mX8_cell [.inr (.inr 50), .inl (nI s)] σ Q := by
  have ea : ∀ τ, fP σ τ → τ 51 (nI s).toNatClampNeg = nI w := fun τ f => by rw [nI_clamp (by omega), f.1 51 (by decide) (by decide), ha]
  have fin : ∀ (x2 x3 : Int32) τ, PI (h - w) τ → fP σ τ → (x3 = 0 ∨ (x3 = 1 ∧ ∃ a, a < 128 ∧ x2 = nI a)) → ev mX8_cell 10 [some (.inr (.inr 50)), some (.inl (nI s)), some (.inl x2), some (.inl x3), some (.inl (nI w))] [] τ Q := by
    intro x2 x3 τ p f hx
    refine s_n_X8_cell_10 ⟨in8 hs, fun _ => ⟨fun _ => k _ τ (by decide) p f, fun h0 => ?_⟩, fun h0 => absurd (by rw [ea τ f]; exact nI_le (Nat.le_refl _) (by omega)) h0⟩
    rcases hx with h1 | ⟨_, a, ha1, rfl⟩
    · exact absurd h1 h0
    · refine ⟨inN ha1 (by decide), k _ τ ?_ p f⟩
      rw [nI_clamp (by omega)]
      exact hV.mv f a ha1
  have one : ∀ (j a g : Nat) (x2 x3 : Int32) τ, j < w → h = j + g + 1 → PI (g + 1) τ → fP σ τ → (x3 = 0 ∨ (x3 = 1 ∧ x2 = nI a)) → (∀ (y2 y3 : Int32) υ, PI g υ → fP σ υ → (y3 = 0 ∨ (y3 = 1 ∧ ∃ v, v ≤ 3 ∧ y2 = nI (a + v * (if w = 2 ∧ j = 1 then 1 else 4)))) → ev mX8_cell 10 [some (.inr (.inr 50)), some (.inl (nI s)), some (.inl y2), some (.inl y3), some (.inl (nI (j + 1)))] [] υ Q) → ev mX8_cell 10 [some (.inr (.inr 50)), some (.inl (nI s)), some (.inl x2), some (.inl x3), some (.inl (nI j))] [] τ Q := by
    intro j a g x2 x3 τ hj hg p f hx kk
    refine s_n_X8_cell_10 ⟨in8 hs, fun h0 => ?_, fun _ τ1 e1 => ?_⟩
    · rw [ea τ f] at h0
      exact absurd ((nI_leI (by omega) (by omega)).mp h0) (by omega)
    · have p1 : PI g τ1 := by rw [e1]; exact p.pop
      have f1 : fP σ τ1 := by rw [e1]; exact f.u50
      have g61 : g < 61 := by have := p.2.1; omega
      have ei : ab_in (τ1 50 18) 61 = true := by rw [p1.1]; exact inN g61 (by decide)
      have off : ev mX8_cell 10 [some (.inr (.inr 50)), some (.inl (nI s)), some (.inl (x2 + 0)), some (.inl 0), some (.inl (nI j + 1))] [] τ1 Q := by
        rw [nI_1]
        exact kk _ _ τ1 p1 f1 (Or.inl rfl)
      refine ⟨fun _ => off, fun h0 => ?_⟩
      rcases hx with h1 | ⟨_, rfl⟩
      · exact absurd h1 h0
      refine ⟨ei, fun _ => off, fun h2 => ⟨ei, in8 hs, ?_⟩⟩
      have hv : (τ1 61 (τ1 50 18).toNatClampNeg).toInt ≤ 3 := by
        rw [p1.1, nI_clamp (by omega), e1, ab_upd_off _ _ (by decide)]
        exact p.2.2 g (by omega)
      obtain ⟨v, hv3, evq⟩ := v4 h2 hv
      rw [evq, ea τ1 f1, nI_1]
      have m4 : nI a + nI v * 4 = nI (a + v * 4) := by
        show nI a + nI v * nI 4 = _
        rw [pk_mul, nI_add]
      have m1 : nI a + nI v * 1 = nI (a + v * 1) := by
        show nI a + nI v * nI 1 = _
        rw [pk_mul, nI_add]
      have fin4 : ¬ (w = 2 ∧ j = 1) → ev mX8_cell 10 [some (.inr (.inr 50)), some (.inl (nI s)), some (.inl (nI a + nI v * 4)), some (.inl 1), some (.inl (nI (j + 1)))] [] τ1 Q := fun q => by
        rw [m4]
        exact kk _ _ τ1 p1 f1 (Or.inr ⟨rfl, v, hv3, by rw [if_neg q]⟩)
      have fin1 : (w = 2 ∧ j = 1) → ev mX8_cell 10 [some (.inr (.inr 50)), some (.inl (nI s)), some (.inl (nI a + nI v * 1)), some (.inl 1), some (.inl (nI (j + 1)))] [] τ1 Q := fun q => by
        rw [m1]
        exact kk _ _ τ1 p1 f1 (Or.inr ⟨rfl, v, hv3, by rw [if_pos q]⟩)
      have c2 : nI w = 2 ↔ w = 2 := nI_eq (b := 2) (by omega) (by decide)
      have c1 : nI w = 1 ↔ w = 1 := nI_eq (b := 1) (by omega) (by decide)
      have c0 : nI j = 0 ↔ j = 0 := nI_eq (b := 0) (by omega) (by decide)
      refine ⟨fun q2 => ⟨fun q0 => fin4 (by have := c0.mp q0; omega), fun q0 => ⟨in8 hs, fun q1 => absurd (c1.mp q1) (by have := c2.mp q2; omega), fun _ => fin1 ?_⟩⟩, fun q2 => ⟨in8 hs, fun q1 => fin4 (by have := c1.mp q1; omega), fun q1 => ?_⟩⟩
      · have h2 := c2.mp q2
        have : ¬ j = 0 := fun q => q0 (c0.mpr q)
        omega
      · have n2 : ¬ w = 2 := fun q => q2 (c2.mpr q)
        have n1 : ¬ w = 1 := fun q => q1 (c1.mpr q)
        omega
  have e16 : 16 * nI s = nI (16 * s) := pk_mul 16 s
  refine s_n_X8_cell_0 ?_
  rw [e16]
  rcases (by omega : w = 0 ∨ w = 1 ∨ w = 2) with rfl | rfl | rfl
  · exact fin _ _ σ hP fP.rf (Or.inr ⟨rfl, _, by omega, rfl⟩)
  · obtain ⟨g, rfl⟩ : ∃ g, h = g + 1 := ⟨h - 1, by omega⟩
    refine one 0 (16 * s) g _ _ σ (by omega) (by omega) hP fP.rf (Or.inr ⟨rfl, rfl⟩) (fun y2 y3 υ p f hy => fin y2 y3 υ p f ?_)
    rcases hy with h1 | ⟨h1, v, hv, rfl⟩
    · exact Or.inl h1
    · exact Or.inr ⟨h1, _, by rw [if_neg (by omega)]; omega, rfl⟩
  · obtain ⟨g, rfl⟩ : ∃ g, h = g + 2 := ⟨h - 2, by omega⟩
    refine one 0 (16 * s) (g + 1) _ _ σ (by omega) (by omega) hP fP.rf (Or.inr ⟨rfl, rfl⟩) (fun y2 y3 υ p f hy => ?_)
    have hy2 : y3 = 0 ∨ (y3 = 1 ∧ ∃ a, a ≤ 16 * s + 12 ∧ y2 = nI a) := by
      rcases hy with h1 | ⟨h1, v, hv, rfl⟩
      · exact Or.inl h1
      · exact Or.inr ⟨h1, _, by rw [if_neg (by omega)]; omega, rfl⟩
    rcases hy2 with h1 | ⟨h1, a, ha1, rfl⟩
    · refine one 1 0 g y2 y3 υ (by omega) (by omega) p f (Or.inl h1) (fun z2 z3 ω p2 f2 hz => fin z2 z3 ω p2 f2 ?_)
      rcases hz with h1 | ⟨h1, v, hv, rfl⟩
      · exact Or.inl h1
      · exact Or.inr ⟨h1, _, by rw [if_pos ⟨rfl, rfl⟩]; omega, rfl⟩
    · refine one 1 a g _ y3 υ (by omega) (by omega) p f (Or.inr ⟨h1, rfl⟩) (fun z2 z3 ω p2 f2 hz => fin z2 z3 ω p2 f2 ?_)
      rcases hz with h1 | ⟨h1, v, hv, rfl⟩
      · exact Or.inl h1
      · exact Or.inr ⟨h1, _, by rw [if_pos ⟨rfl, rfl⟩]; omega, rfl⟩
/-- how much a character takes from the pile -/
def pops (ar : Nat → Int32) (b w : Nat) : Prop := (120 ≤ b ∧ b ≤ 122 ∧ w = 0) ∨ (sy b < 8 ∧ w ≤ 2 ∧ ar (sy b) = nI w) ∨ (b = 61 ∧ w = 2) ∨ (b = 33 ∧ w = 1)
theorem sy_v : ∀ b, b < 256 → sy b < 8 → ¬ (120 ≤ b ∧ b ≤ 122) ∧ b ≠ 61 ∧ b ≠ 33 ∧ b ≠ 124 := by decide +kernel
theorem st_s {b w h : Nat} (hb : b < 256) (hp : pops (σ 51) b w) (hh : w ≤ h) (h6 : h - w ≤ 60) (hP : PI h σ) (hN : NI σ) (hV : VI σ) (k : ∀ τ, PI (h - w + 1) τ → fP σ τ → Q none τ) : evm mX8_step [.inr (.inr 50), .inl (nI b)] σ Q := by
  refine s_n_X8_step_0 (x_symbolOf σ (nI b) ⟨_, rfl, ?_⟩)
  rw [sy_ok σ b hb]
  have l1 : nI b < 120 ↔ b < 120 := nI_ltI (b := 120) (by omega) (by decide)
  have l2 : 122 < nI b ↔ 122 < b := nI_ltI (a := 122) (by decide) (by omega)
  have l3 : nI b = 61 ↔ b = 61 := nI_eq (b := 61) (by omega) (by decide)
  rcases hp with ⟨h1, h2, rfl⟩ | ⟨h1, h2, h3⟩ | ⟨rfl, rfl⟩ | ⟨rfl, rfl⟩
  · refine ⟨fun q => absurd (l1.mp q) (by omega), fun _ => ⟨fun q => absurd (l2.mp q) (by omega), fun _ => ?_⟩⟩
    have e : nI b - 120 = nI (b - 120) := by
      obtain ⟨c, rfl⟩ : ∃ c, b = c + 120 := ⟨b - 120, by omega⟩
      rw [← nI_add, Nat.add_sub_cancel]
      exact Int32.add_sub_cancel _ _
    rw [e, nI_clamp (by omega)]
    exact ⟨inN (by omega) (by decide), by rw [hP.1]; exact inN (by omega) (by decide), fun τ3 e3 τ4 e4 => k τ4 (hP.push h6 (hN _ (by omega)) e3 e4) (fP.rf.push e3 e4)⟩
  · obtain ⟨n1, n2, n3, n4⟩ := sy_v b hb h1
    rw [if_pos h1]
    refine ⟨fun q => ?_, fun q => ⟨fun q2 => ?_, fun q2 => absurd ⟨Nat.le_of_not_lt (fun q3 => q (l1.mpr q3)), Nat.le_of_not_lt (fun q3 => q2 (l2.mpr q3))⟩ n1⟩⟩
    all_goals
      refine ⟨fun q => absurd q (nI_pos (by omega)), fun _ => ce_s h1 h2 h3 hh hP hV (fun r τ hr p f => ⟨_, rfl, by rw [p.1]; exact inN (by omega) (by decide), fun τ5 e5 τ6 e6 => k τ6 (p.push h6 hr e5 e6) (f.push e5 e6)⟩)⟩
  · rw [if_neg (by decide)]
    refine ⟨fun q => ?_, fun q => absurd (l1.mpr (by decide)) q⟩
    refine ⟨fun _ => ⟨fun _ τ3 e3 => ?_, fun q => absurd rfl q⟩, fun q => absurd (by decide) q⟩
    obtain ⟨g, rfl⟩ : ∃ g, h = g + 2 := ⟨h - 2, by omega⟩
    have p3 : PI g τ3 := by
      rw [e3]
      refine ⟨?_, by have := hP.2.1; omega, fun t ht => by rw [ab_upd_off _ _ (by decide)]; exact hP.2.2 t (by omega)⟩
      rw [ab_upd_same, hP.1, ← nI_add]
      exact Int32.add_sub_cancel _ _
    have f3 : fP σ τ3 := by rw [e3]; exact fP.rf.u50
    have g6 : g ≤ 59 := by have := hP.2.1; omega
    have i1 : ab_in (τ3 50 18) 61 = true := by rw [p3.1]; exact inN (by omega) (by decide)
    have i2 : ab_in (τ3 50 18 + 1) 61 = true := by rw [p3.1, nI_1]; exact inN (by omega) (by decide)
    have kk : ∀ v : Int32, v.toInt ≤ 3 → ∀ τ4, τ4 = ab_upd τ3 61 (τ3 50 18).toNatClampNeg v → ∀ τ5, τ5 = ab_upd τ4 50 18 ((τ4 50 18) + 1) → Q none τ5 := fun v hv τ4 e4 τ5 e5 => k τ5 (p3.push (by omega) hv e4 e5) (f3.push e4 e5)
    exact ⟨i1, i2, fun _ => ⟨i1, kk _ (by decide)⟩, fun _ => ⟨fun _ => ⟨fun _ => ⟨i1, kk _ (by decide)⟩, fun _ => ⟨i1, kk _ (by decide)⟩⟩, fun _ => ⟨i1, kk _ (by decide)⟩⟩⟩
  · rw [if_neg (by decide)]
    refine ⟨fun q => ?_, fun q => absurd (l1.mpr (by decide)) q⟩
    refine ⟨fun _ => ⟨fun q => absurd (l3.mp q) (by decide), fun _ τ3 e3 => ?_⟩, fun q => absurd (by decide) q⟩
    obtain ⟨g, rfl⟩ : ∃ g, h = g + 1 := ⟨h - 1, by omega⟩
    have p3 : PI g τ3 := by rw [e3]; exact hP.pop
    have f3 : fP σ τ3 := by rw [e3]; exact fP.rf.u50
    have g6 : g ≤ 60 := by have := hP.2.1; omega
    have i1 : ab_in (τ3 50 18) 61 = true := by rw [p3.1]; exact inN (by omega) (by decide)
    have kk : ∀ v : Int32, v.toInt ≤ 3 → ∀ τ4, τ4 = ab_upd τ3 61 (τ3 50 18).toNatClampNeg v → ∀ τ5, τ5 = ab_upd τ4 50 18 ((τ4 50 18) + 1) → Q none τ5 := fun v hv τ4 e4 τ5 e5 => k τ5 (p3.push (by omega) hv e4 e5) (f3.push e4 e5)
    have hv : (τ3 61 (τ3 50 18).toNatClampNeg).toInt ≤ 3 := by
      rw [p3.1, nI_clamp (by omega), e3, ab_upd_off _ _ (by decide)]
      exact hP.2.2 g (by omega)
    refine ⟨i1, fun q => ⟨i1, i1, kk _ ?_⟩, fun _ => ⟨i1, kk _ (by decide)⟩⟩
    rw [Int32.le_iff_toInt_le, li_0] at q
    rw [i32_sub (by rw [li_1]; omega) (by rw [li_1]; omega), li_1]
    omega
end CE

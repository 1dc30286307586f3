/-! the reference's look is the same function -/
def ceR (σ : ab_M) (s w h : Nat) : Int32 := if w = 0 then σ 55 (16 * s) else if σ 61 (h - 1) < 0 then -1 else if w = 1 then σ 55 (16 * s + 4 * (σ 61 (h - 1)).toNatClampNeg) else if σ 61 (h - 2) < 0 then -1 else σ 55 (16 * s + 4 * (σ 61 (h - 1)).toNatClampNeg + (σ 61 (h - 2)).toNatClampNeg)
section CG
variable {σ : ab_M} {Q : Option ab_V → ab_M → Prop}
theorem ce_g {s w h : Nat} (hs : s < 8) (hw : w ≤ 2) (ha : σ 51 s = nI w) (hh : w ≤ h) (hP : PI h σ) (k : ∀ τ, τ 50 18 = nI (h - w) → τ 61 = σ 61 → fP σ τ → Q (some (.inl (ceR σ s w h))) τ) : evm mX8_cell [.inr (.inr 50), .inl (nI s)] σ Q := by
  have h61 := hP.2.1
  have ea : ∀ τ, fP σ τ → τ 51 (nI s).toNatClampNeg = nI w := fun τ f => by rw [nI_clamp (by omega), f.1 51 (by decide) (by decide), ha]
  have fin : ∀ (x2 x3 : Int32) τ, τ 50 18 = nI (h - w) → τ 61 = σ 61 → fP σ τ → ((x3 = 0 ∧ ceR σ s w h = -1) ∨ (x3 = 1 ∧ ∃ a, a < 128 ∧ x2 = nI a ∧ ceR σ s w h = σ 55 a)) → ev mX8_cell 10 [some (.inr (.inr 50)), some (.inl (nI s)), some (.inl x2), some (.inl x3), some (.inl (nI w))] [] τ Q := by
    intro x2 x3 τ p q f hx
    have kk := k τ p q f
    refine s_n_X8_cell_10 ⟨in8 hs, fun _ => ⟨fun h0 => ?_, fun h0 => ?_⟩, fun h0 => absurd (by rw [ea τ f]; exact nI_le (Nat.le_refl _) (by omega)) h0⟩
    · rcases hx with ⟨_, e⟩ | ⟨h1, _⟩
      · rw [e] at kk; exact kk
      · rw [h1] at h0; exact absurd h0 (by decide)
    · rcases hx with ⟨h1, _⟩ | ⟨_, a, ha1, rfl, e⟩
      · exact absurd h1 h0
      · refine ⟨inN ha1 (by decide), ?_⟩
        rw [nI_clamp (by omega), f.1 55 (by decide) (by decide), ← e]
        exact kk
  have one : ∀ (j g : Nat) (x2 x3 : Int32) τ, j < w → h = j + g + 1 → τ 50 18 = nI (g + 1) → τ 61 = σ 61 → fP σ τ → (x3 = 0 ∨ x3 = 1) → (∀ (y2 y3 : Int32) υ, υ 50 18 = nI g → υ 61 = σ 61 → fP σ υ → (x3 = 0 ∨ σ 61 g < 0 → y3 = 0) → (x3 = 1 → ¬ σ 61 g < 0 → y3 = 1 ∧ y2 = x2 + σ 61 g * (if w = 2 ∧ j = 1 then 1 else 4)) → ev mX8_cell 10 [some (.inr (.inr 50)), some (.inl (nI s)), some (.inl y2), some (.inl y3), some (.inl (nI (j + 1)))] [] υ Q) → ev mX8_cell 10 [some (.inr (.inr 50)), some (.inl (nI s)), some (.inl x2), some (.inl x3), some (.inl (nI j))] [] τ Q := by
    intro j g x2 x3 τ hj hg p q f hx kk
    refine s_n_X8_cell_10 ⟨in8 hs, fun h0 => ?_, fun _ τ1 e1 => ?_⟩
    · rw [ea τ f] at h0
      exact absurd ((nI_leI (by omega) (by omega)).mp h0) (by omega)
    · have p1 : τ1 50 18 = nI g := by rw [e1, ab_upd_same, p]; exact nI_pred g
      have q1 : τ1 61 = σ 61 := by rw [e1, ab_upd_off _ _ (by decide)]; exact q
      have f1 : fP σ τ1 := by rw [e1]; exact f.u50
      have ei : ab_in (τ1 50 18) 61 = true := by rw [p1]; exact inN (by omega) (by decide)
      have off : (x3 = 0 ∨ σ 61 g < 0) → ev mX8_cell 10 [some (.inr (.inr 50)), some (.inl (nI s)), some (.inl (x2 + 0)), some (.inl 0), some (.inl (nI j + 1))] [] τ1 Q := by
        intro ho
        rw [nI_1]
        exact kk _ _ τ1 p1 q1 f1 (fun _ => rfl) (fun e1 e2 => ho.elim (fun e => absurd (e.symm.trans e1) (by decide)) (fun e => absurd e e2))
      have ew : τ1 61 (τ1 50 18).toNatClampNeg = σ 61 g := by rw [p1, nI_clamp (by omega), q1]
      rw [ew]
      refine ⟨fun h0 => off (Or.inl h0), fun h0 => ⟨ei, fun h2 => off (Or.inr h2), fun h2 => ⟨ei, in8 hs, ?_⟩⟩⟩
      have x1 : x3 = 1 := hx.resolve_left h0
      rw [ea τ1 f1, nI_1]
      have on : ∀ c : Int32, c = (if w = 2 ∧ j = 1 then 1 else 4) → ev mX8_cell 10 [some (.inr (.inr 50)), some (.inl (nI s)), some (.inl (x2 + σ 61 g * c)), some (.inl 1), some (.inl (nI (j + 1)))] [] τ1 Q := fun c hc => kk _ _ τ1 p1 q1 f1 (fun e => e.elim (fun e => absurd (e.symm.trans x1) (by decide)) (fun e => absurd e h2)) (fun _ _ => ⟨rfl, by rw [hc]⟩)
      have c2 : nI w = 2 ↔ w = 2 := nI_eq (b := 2) (by omega) (by decide)
      have c1 : nI w = 1 ↔ w = 1 := nI_eq (b := 1) (by omega) (by decide)
      have c0 : nI j = 0 ↔ j = 0 := nI_eq (b := 0) (by omega) (by decide)
      refine ⟨fun q2 => ⟨fun q0 => on 4 (by rw [if_neg (by have := c0.mp q0; omega)]), fun q0 => ⟨in8 hs, fun q1 => absurd (c1.mp q1) (by have := c2.mp q2; omega), fun _ => on 1 (by rw [if_pos]; have h2 := c2.mp q2; have : ¬ j = 0 := fun q => q0 (c0.mpr q); omega)⟩⟩, fun q2 => ⟨in8 hs, fun q1 => on 4 (by rw [if_neg (by have := c1.mp q1; omega)]), fun q1 => ?_⟩⟩
      have n2 : ¬ w = 2 := fun q => q2 (c2.mpr q)
      have n1 : ¬ w = 1 := fun q => q1 (c1.mpr q)
      omega
  have e16 : 16 * nI s = nI (16 * s) := pk_mul 16 s
  have f4 : ∀ t, t < h → ¬ σ 61 t < 0 → ∃ v, v ≤ 3 ∧ σ 61 t = nI v := fun t ht h0 => v4 h0 (hP.2.2 t ht)
  have mul : ∀ (a v c : Nat), nI a + nI v * nI c = nI (a + v * c) := fun a v c => by rw [pk_mul, nI_add]
  refine s_n_X8_cell_0 ?_
  rw [e16]
  rcases (by omega : w = 0 ∨ w = 1 ∨ w = 2) with rfl | rfl | rfl
  · exact fin _ _ σ hP.1 rfl fP.rf (Or.inr ⟨rfl, _, by omega, rfl, rfl⟩)
  · obtain ⟨g, rfl⟩ : ∃ g, h = g + 1 := ⟨h - 1, by omega⟩
    refine one 0 g _ _ σ (by omega) (by omega) hP.1 rfl fP.rf (Or.inr rfl) (fun y2 y3 υ p q f hy1 hy2 => fin y2 y3 υ p q f ?_)
    unfold ceR
    rw [if_neg (by omega), show g + 1 - 1 = g from rfl]
    by_cases hn : σ 61 g < 0
    · exact Or.inl ⟨hy1 (Or.inr hn), by rw [if_pos hn]⟩
    · obtain ⟨v, hv, ev1⟩ := f4 g (by omega) hn
      obtain ⟨z1, z2⟩ := hy2 rfl hn
      refine Or.inr ⟨z1, 16 * s + 4 * v, by omega, ?_, ?_⟩
      · rw [z2, ev1, if_neg (by omega)]
        exact (mul _ v 4).trans (by congr 1; omega)
      · rw [if_neg hn, if_pos rfl, ev1, nI_clamp (by omega)]
  · obtain ⟨g, rfl⟩ : ∃ g, h = g + 2 := ⟨h - 2, by omega⟩
    refine one 0 (g + 1) _ _ σ (by omega) (by omega) hP.1 rfl fP.rf (Or.inr rfl) (fun y2 y3 υ p q f hy1 hy2 => ?_)
    have y01 : y3 = 0 ∨ y3 = 1 := by
      by_cases hn : σ 61 (g + 1) < 0
      · exact Or.inl (hy1 (Or.inr hn))
      · exact Or.inr (hy2 rfl hn).1
    refine one 1 g y2 y3 υ (by omega) (by omega) p q f y01 (fun w2 w3 ω p2 q2 f2 hw1 hw2 => fin w2 w3 ω p2 q2 f2 ?_)
    unfold ceR
    rw [if_neg (by omega), show g + 2 - 1 = g + 1 from rfl, show g + 2 - 2 = g from rfl]
    by_cases hn : σ 61 (g + 1) < 0
    · exact Or.inl ⟨hw1 (Or.inl (hy1 (Or.inr hn))), by rw [if_pos hn]⟩
    · obtain ⟨v, hv, ev1⟩ := f4 (g + 1) (by omega) hn
      obtain ⟨z1, z2⟩ := hy2 rfl hn
      rw [if_neg hn, if_neg (by omega)]
      by_cases hm : σ 61 g < 0
      · exact Or.inl ⟨hw1 (Or.inr hm), by rw [if_pos hm]⟩
      · obtain ⟨u, hu, ev2⟩ := f4 g (by omega) hm
        obtain ⟨z3, z4⟩ := hw2 z1 hm
        refine Or.inr ⟨z3, 16 * s + 4 * v + u, by omega, ?_, ?_⟩
        · rw [z4, z2, ev1, ev2, if_neg (by omega), if_pos ⟨rfl, rfl⟩]
          exact (congrArg (· + nI u * nI 1) (mul _ v 4)).trans ((mul _ u 1).trans (by congr 1; omega))
        · rw [if_neg hm, ev1, ev2, nI_clamp (by omega), nI_clamp (by omega)]
def stV (σ : ab_M) (b w h : Nat) : Int32 := if 120 ≤ b ∧ b ≤ 122 then σ 59 (b - 120) else if b = 61 then (if σ 61 (h - 2) < 0 then -1 else if σ 61 (h - 1) < 0 then -1 else if σ 61 (h - 2) = σ 61 (h - 1) then 1 else 0) else if b = 33 then (if σ 61 (h - 1) < 0 then -1 else 1 - σ 61 (h - 1)) else ceR σ (sy b) w h
theorem push_v {σ σ1 σ2 ρ : ab_M} {g : Nat} {v : Int32} (g6 : g ≤ 60) (p : σ 50 18 = nI g) (q : σ 61 = ρ 61) (e1 : σ1 = ab_upd σ 61 (σ 50 18).toNatClampNeg v) (e2 : σ2 = ab_upd σ1 50 18 (σ1 50 18 + 1)) : σ2 50 18 = nI (g + 1) ∧ (∀ t, t < g → σ2 61 t = ρ 61 t) ∧ σ2 61 g = v := by
  subst e1
  subst e2
  refine ⟨?_, fun t ht => ?_, ?_⟩
  · rw [ab_upd_same, ab_upd_off _ _ (by decide), p]; exact nI_1 g
  · rw [ab_upd_off _ _ (by decide), ab_upd_eq, p, nI_clamp (by omega), if_neg (by omega), q]
  · rw [ab_upd_off _ _ (by decide), p, nI_clamp (by omega), ab_upd_same]
theorem st_g {b w h : Nat} (hb : b < 256) (hp : pops (σ 51) b w) (hh : w ≤ h) (h6 : h - w ≤ 60) (hP : PI h σ) (k : ∀ τ, τ 50 18 = nI (h - w + 1) → (∀ t, t < h - w → τ 61 t = σ 61 t) → τ 61 (h - w) = stV σ b w h → fP σ τ → Q none τ) : evm mX8_step [.inr (.inr 50), .inl (nI b)] σ Q := by
  refine s_n_X8_step_0 (x_symbolOf σ (nI b) ⟨_, rfl, ?_⟩)
  rw [sy_ok σ b hb]
  have l1 : nI b < 120 ↔ b < 120 := nI_ltI (b := 120) (by omega) (by decide)
  have l2 : 122 < nI b ↔ 122 < b := nI_ltI (a := 122) (by decide) (by omega)
  have l3 : nI b = 61 ↔ b = 61 := nI_eq (b := 61) (by omega) (by decide)
  unfold stV at k
  rcases hp with ⟨h1, h2, rfl⟩ | ⟨h1, h2, h3⟩ | ⟨rfl, rfl⟩ | ⟨rfl, rfl⟩
  · rw [if_pos ⟨h1, h2⟩] at k
    refine ⟨fun q => absurd (l1.mp q) (by omega), fun _ => ⟨fun q => absurd (l2.mp q) (by omega), fun _ => ?_⟩⟩
    have e : nI b - 120 = nI (b - 120) := by
      obtain ⟨c, rfl⟩ : ∃ c, b = c + 120 := ⟨b - 120, by omega⟩
      rw [← nI_add, Nat.add_sub_cancel]
      exact Int32.add_sub_cancel _ _
    rw [e, nI_clamp (by omega)]
    refine ⟨inN (by omega) (by decide), by rw [hP.1]; exact inN (by omega) (by decide), fun τ3 e3 τ4 e4 => ?_⟩
    obtain ⟨y1, y2, y3⟩ := push_v (ρ := σ) h6 hP.1 rfl e3 e4
    exact k τ4 y1 y2 y3 (fP.rf.push e3 e4)
  · obtain ⟨n1, n2, n3, n4⟩ := sy_v b hb h1
    rw [if_neg n1, if_neg n2, if_neg n3] at k
    rw [if_pos h1]
    refine ⟨fun q => ?_, fun q => ⟨fun q2 => ?_, fun q2 => absurd ⟨Nat.le_of_not_lt (fun q3 => q (l1.mpr q3)), Nat.le_of_not_lt (fun q3 => q2 (l2.mpr q3))⟩ n1⟩⟩
    all_goals
      refine ⟨fun q => absurd q (nI_pos (by omega)), fun _ => ce_g h1 h2 h3 hh hP (fun τ p q1 f => ⟨_, rfl, by rw [p]; exact inN (by omega) (by decide), fun τ5 e5 τ6 e6 => ?_⟩)⟩
      obtain ⟨y1, y2, y3⟩ := push_v (ρ := σ) h6 p q1 e5 e6
      exact k τ6 y1 y2 y3 (f.push e5 e6)
  · rw [if_neg (by decide), if_pos rfl] at k
    rw [if_neg (by decide)]
    refine ⟨fun q => ?_, fun q => absurd (l1.mpr (by decide)) q⟩
    refine ⟨fun _ => ⟨fun _ τ3 e3 => ?_, fun q => absurd rfl q⟩, fun q => absurd (by decide) q⟩
    obtain ⟨g, rfl⟩ : ∃ g, h = g + 2 := ⟨h - 2, by omega⟩
    rw [show g + 2 - 2 = g from rfl, show g + 2 - 1 = g + 1 from rfl] at k
    have g6 : g ≤ 59 := by have := hP.2.1; omega
    have p3 : τ3 50 18 = nI g := by
      rw [e3, ab_upd_same, hP.1, ← nI_add]
      exact Int32.add_sub_cancel _ _
    have q3 : τ3 61 = σ 61 := by rw [e3, ab_upd_off _ _ (by decide)]
    have f3 : fP σ τ3 := by rw [e3]; exact fP.rf.u50
    have i1 : ab_in (τ3 50 18) 61 = true := by rw [p3]; exact inN (by omega) (by decide)
    have i2 : ab_in (τ3 50 18 + 1) 61 = true := by rw [p3, nI_1]; exact inN (by omega) (by decide)
    have w0 : τ3 61 (τ3 50 18).toNatClampNeg = σ 61 g := by rw [p3, nI_clamp (by omega), q3]
    have w1 : τ3 61 (τ3 50 18 + 1).toNatClampNeg = σ 61 (g + 1) := by rw [p3, nI_1, nI_clamp (by omega), q3]
    have kk : ∀ v : Int32, v = (if σ 61 g < 0 then -1 else if σ 61 (g + 1) < 0 then -1 else if σ 61 g = σ 61 (g + 1) then 1 else 0) → ∀ τ4, τ4 = ab_upd τ3 61 (τ3 50 18).toNatClampNeg v → ∀ τ5, τ5 = ab_upd τ4 50 18 ((τ4 50 18) + 1) → Q none τ5 := fun v hv τ4 e4 τ5 e5 => by
      obtain ⟨y1, y2, y3⟩ := push_v (ρ := σ) (by omega) p3 q3 e4 e5
      exact k τ5 y1 y2 (y3.trans hv) (f3.push e4 e5)
    rw [w0, w1]
    refine ⟨i1, i2, fun a1 => ⟨i1, kk _ (by rw [if_pos a1])⟩, fun a1 => ⟨fun a2 => ?_, fun a2 => ⟨i1, kk _ ?_⟩⟩⟩
    · have a3 : ¬ σ 61 (g + 1) < 0 := fun q => by
        rw [Int32.lt_iff_toInt_lt] at q
        rw [Int32.le_iff_toInt_le] at a2
        omega
      exact ⟨fun a4 => ⟨i1, kk _ (by rw [if_neg a1, if_neg a3, if_pos a4])⟩, fun a4 => ⟨i1, kk _ (by rw [if_neg a1, if_neg a3, if_neg a4])⟩⟩
    · have a3 : σ 61 (g + 1) < 0 := by
        rw [Int32.lt_iff_toInt_lt]
        rw [Int32.le_iff_toInt_le] at a2
        omega
      rw [if_neg a1, if_pos a3]
  · rw [if_neg (by decide), if_neg (by decide), if_pos rfl] at k
    rw [if_neg (by decide)]
    refine ⟨fun q => ?_, fun q => absurd (l1.mpr (by decide)) q⟩
    refine ⟨fun _ => ⟨fun q => absurd (l3.mp q) (by decide), fun _ τ3 e3 => ?_⟩, fun q => absurd (by decide) q⟩
    obtain ⟨g, rfl⟩ : ∃ g, h = g + 1 := ⟨h - 1, by omega⟩
    rw [show g + 1 - 1 = g from rfl] at k
    have g6 : g ≤ 60 := by have := hP.2.1; omega
    have p3 : τ3 50 18 = nI g := by rw [e3, ab_upd_same, hP.1]; exact nI_pred g
    have q3 : τ3 61 = σ 61 := by rw [e3, ab_upd_off _ _ (by decide)]
    have f3 : fP σ τ3 := by rw [e3]; exact fP.rf.u50
    have i1 : ab_in (τ3 50 18) 61 = true := by rw [p3]; exact inN (by omega) (by decide)
    have w0 : τ3 61 (τ3 50 18).toNatClampNeg = σ 61 g := by rw [p3, nI_clamp (by omega), q3]
    have kk : ∀ v : Int32, v = (if σ 61 g < 0 then -1 else 1 - σ 61 g) → ∀ τ4, τ4 = ab_upd τ3 61 (τ3 50 18).toNatClampNeg v → ∀ τ5, τ5 = ab_upd τ4 50 18 ((τ4 50 18) + 1) → Q none τ5 := fun v hv τ4 e4 τ5 e5 => by
      obtain ⟨y1, y2, y3⟩ := push_v (ρ := σ) (by omega) p3 q3 e4 e5
      exact k τ5 y1 y2 (y3.trans hv) (f3.push e4 e5)
    rw [w0]
    refine ⟨i1, fun a1 => ⟨i1, i1, kk _ ?_⟩, fun a1 => ⟨i1, kk _ ?_⟩⟩
    · rw [if_neg]
      intro q
      rw [Int32.lt_iff_toInt_lt] at q
      rw [Int32.le_iff_toInt_le] at a1
      omega
    · rw [if_pos]
      rw [Int32.lt_iff_toInt_lt]
      rw [Int32.le_iff_toInt_le] at a1
      omega
end CG

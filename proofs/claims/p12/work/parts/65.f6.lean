/-- what lay writes -/
def fY (σ τ : ab_M) : Prop := ∀ z, (z < 37 ∨ 42 ≤ z) → τ z = σ z
theorem fY.rf {σ : ab_M} : fY σ σ := fun _ _ => rfl
theorem fY.tr {σ τ υ : ab_M} (h1 : fY σ τ) (h2 : fY τ υ) : fY σ υ := fun z hz => (h2 z hz).trans (h1 z hz)
theorem fY.up {σ τ : ab_M} (h : fY σ τ) {q k : Nat} {v : Int32} (hq : 37 ≤ q ∧ q < 42) : fY σ (ab_upd τ q k v) := fun z hz => by
  rw [ab_upd_off _ _ (by omega)]
  exact h z hz
section LY
variable {σ : ab_M} {Q : Option ab_V → ab_M → Prop}
theorem lc_s {n : Nat} {x y : Int32} (h : TI n σ) (k : ∀ τ, TI n τ → fY σ τ → Q none τ) : evm mX6_layCell [.inr (.inr 37), .inl x, .inl y] σ Q := by
  obtain ⟨hn, h4, c, hc, h5, ho⟩ := h
  have kk : Q none σ := k σ ⟨hn, h4, c, hc, h5, ho⟩ fY.rf
  refine s_X6_layCell_0 ⟨fun _ => kk, fun h1 => ⟨fun _ => kk, fun h2 => ⟨fun _ => kk, fun h3 => ?_⟩⟩⟩
  have hc2 : c < 128 := by
    rcases Nat.lt_or_ge c 128 with q | q
    · exact q
    · exact absurd (by rw [h5]; exact nI_le (a := 128) q (by omega)) h1
  obtain ⟨o, ho1, rfl⟩ : ∃ o : Nat, o < 128 ∧ x = nI o := by
    obtain ⟨o, g1, rfl⟩ := nI_of h2
    refine ⟨o, ?_, rfl⟩
    rcases Nat.lt_or_ge o 128 with q | q
    · exact q
    · exact absurd (nI_le (a := 128) q g1) h3
  have e1 : (ab_upd σ 39 (σ 37 5).toNatClampNeg (nI o)) 37 5 = nI c := by rw [ab_upd_off _ _ (by decide)]; exact h5
  rw [e1]
  have e2 : (ab_upd (ab_upd σ 39 (σ 37 5).toNatClampNeg (nI o)) 40 (nI o).toNatClampNeg (nI c)) 37 5 = nI c := by rw [ab_upd_off _ _ (by decide)]; exact e1
  rw [e2]
  have e3 : (ab_upd (ab_upd (ab_upd σ 39 (σ 37 5).toNatClampNeg (nI o)) 40 (nI o).toNatClampNeg (nI c)) 41 (nI c).toNatClampNeg y) 37 5 = nI c := by rw [ab_upd_off _ _ (by decide)]; exact e2
  rw [e3, nI_1]
  refine ⟨by rw [h5]; exact inN hc2 (by decide), inN ho1 (by decide), inN hc2 (by decide), k _ ⟨hn, ?_, c + 1, by omega, ab_upd_same _ _ _ _, fun r hr => ?_⟩ ((((fY.rf.up (by omega)).up (by omega)).up (by omega)).up (by omega))⟩
  · rw [ab_upd_eq, if_neg (by decide), ab_upd_off _ _ (by decide), ab_upd_off _ _ (by decide), ab_upd_off _ _ (by decide)]
    exact h4
  · rw [ab_upd_off _ _ (by decide), ab_upd_off _ _ (by decide), ab_upd_off _ _ (by decide), ab_upd_eq, h5, nI_clamp (by omega)]
    by_cases e : r = c
    · rw [if_pos ⟨rfl, e⟩]
      exact ⟨o, ho1, rfl⟩
    · rw [if_neg (fun q => e q.2)]
      exact ho r (by omega)
theorem dn_lt {g a : Nat} (hg : g ≤ 5) (ha : a ≤ 5) : (dn g < nI a ↔ g ≤ a) := by
  have : ∀ g, g < 6 → ∀ a, a < 6 → (dn g < nI a ↔ g ≤ a) := by decide +kernel
  exact this g (by omega) a (by omega)
theorem lp_s {n g : Nat} {x : Int32} (hg : g ≤ 4) (h : TI n σ) (k : ∀ τ, TI n τ → fY σ τ → Q none τ) : evm mX6_layPairs [.inr (.inr 37), .inl x, .inl (dn g)] σ Q := by
  have outer : ∀ (d a : Nat) (τ : ab_M) (o4 : Option ab_V), a + d = g → TI n τ → fY σ τ → ev mX6_layPairs 2 [some (.inr (.inr 37)), some (.inl x), some (.inl (dn g)), some (.inl (nI a)), o4] [] τ Q := by
    intro d
    induction d with
    | zero =>
      intro a τ o4 ha t1 f1
      exact s_X6_layPairs_2 ⟨fun _ => k τ t1 f1, fun h2 => absurd ((dn_lt (by omega) (by omega)).mpr (by omega)) h2⟩
    | succ d ih =>
      intro a τ o4 ha t1 f1
      refine s_X6_layPairs_2 ⟨fun h2 => absurd ((dn_lt (by omega) (by omega)).mp h2) (by omega), fun _ => ?_⟩
      have inner : ∀ (e b : Nat) (τ : ab_M), b + e = g → TI n τ → fY σ τ → ev mX6_layPairs 10 [some (.inr (.inr 37)), some (.inl x), some (.inl (dn g)), some (.inl (nI a)), some (.inl (nI b))] [] τ Q := by
        intro e
        induction e with
        | zero =>
          intro b τ hb t1 f1
          refine s_X6_layPairs_10 ⟨fun _ => ?_, fun h2 => absurd ((dn_lt (by omega) (by omega)).mpr (by omega)) h2⟩
          rw [nI_1]
          exact ih (a + 1) τ _ (by omega) t1 f1
        | succ e ihb =>
          intro b τ hb t1 f1
          refine s_X6_layPairs_10 ⟨fun h2 => absurd ((dn_lt (by omega) (by omega)).mp h2) (by omega), fun _ => ?_⟩
          rw [nI_1]
          have go : evm mX6_cellOf [.inl x, .inl (nI a), .inl (nI b)] τ (fun v τ1 => ∃ r2 : Int32, v = some (.inl r2) ∧ evm mX6_layCell [.inr (.inr 37), .inl r2, .inl (dn g)] τ1 (fun v τ3 => v = none ∧ ev mX6_layPairs 10 [some (.inr (.inr 37)), some (.inl x), some (.inl (dn g)), some (.inl (nI a)), some (.inl (nI (b + 1)))] [] τ3 Q)) :=
            s_X6_cellOf_0 ⟨_, rfl, lc_s t1 (fun υ t2 f2 => ⟨rfl, ihb (b + 1) υ (by omega) t2 (f1.tr f2)⟩)⟩
          exact ⟨fun _ => go, fun _ => ⟨fun _ => go, fun _ => ihb (b + 1) τ (by omega) t1 f1⟩⟩
      exact inner g 0 τ (by omega) t1 f1
  exact s_X6_layPairs_0 (outer g 0 σ _ (by omega) h fY.rf)
theorem ls_s {n g : Nat} {x y : Int32} (hg : g ≤ 4) (h : TI n σ) (k : ∀ τ, TI n τ → fY σ τ → Q none τ) : evm mX6_layCells [.inr (.inr 37), .inl x, .inl y, .inl (dn g)] σ Q := by
  have two : ∀ τ, TI n τ → fY σ τ → ((y = 2 → evm mX6_layPairs [.inr (.inr 37), .inl x, .inl (dn g)] τ (fun v τ4 => v = none ∧ Q none τ4)) ∧ (¬ y = 2 → Q none τ)) := fun τ t1 f1 => ⟨fun _ => lp_s hg t1 (fun υ t2 f2 => ⟨rfl, k υ t2 (f1.tr f2)⟩), fun _ => k τ t1 f1⟩
  have one : ∀ τ, TI n τ → fY σ τ → evm mX6_cellOf [.inl x, .inl (dn g), .inl 0] τ (fun v τ4 => ∃ r5 : Int32, v = some (.inl r5) ∧ evm mX6_layCell [.inr (.inr 37), .inl r5, .inl (dn g)] τ4 (fun v τ6 => v = none ∧ ((y = 2 → evm mX6_layPairs [.inr (.inr 37), .inl x, .inl (dn g)] τ6 (fun v τ7 => v = none ∧ Q none τ7)) ∧ (¬ y = 2 → Q none τ6)))) := fun τ t1 f1 => s_X6_cellOf_0 ⟨_, rfl, lc_s t1 (fun υ t2 f2 => ⟨rfl, two υ t2 (f1.tr f2)⟩)⟩
  refine s_X6_layCells_0 ⟨fun _ => ⟨fun _ => s_X6_cellOf_0 ⟨_, rfl, lc_s h (fun υ t2 f2 => ⟨rfl, fun _ => ⟨fun _ => two υ t2 f2, fun _ => one υ t2 f2⟩, fun _ => two υ t2 f2⟩)⟩, fun _ => ⟨fun _ => ⟨fun _ => two σ h fY.rf, fun _ => one σ h fY.rf⟩, fun _ => two σ h fY.rf⟩⟩, fun _ => ⟨fun _ => ⟨fun _ => two σ h fY.rf, fun _ => one σ h fY.rf⟩, fun _ => two σ h fY.rf⟩⟩
theorem dn_le {n g : Nat} (hn : n ≤ 5) (hg : g ≤ 6) : (nI n ≤ dn g ↔ n < g) := by
  have : ∀ n, n < 6 → ∀ g, g < 7 → (nI n ≤ dn g ↔ n < g) := by decide +kernel
  exact this n (by omega) g (by omega)
theorem dn_1 (g : Nat) : dn g + 1 = dn (g + 1) := by
  rw [dn_s]
  unfold dn
  rw [Int32.sub_add_cancel]
theorem la_s {n : Nat} (hn : n ≤ 4) (k : ∀ τ, TI n τ → fY σ τ → Q none τ) : evm mX6_lay [.inr (.inr 37), .inl (nI n), .inr (.inr 1)] σ Q := by
  refine s_X6_lay_0 (fl_ok (n := 128) rfl (by decide) (fun τ h1 _ => ⟨rfl, ?_⟩))
  have t0 : TI n τ := by
    refine ⟨hn, ?_, 0, by omega, ?_, fun r hr => by omega⟩
    · rw [h1 37 (by decide), ab_upd_eq, if_neg (by decide), ab_upd_same]
    · rw [h1 37 (by decide), ab_upd_same]
      rfl
  have f0 : fY σ τ := fun z hz => by rw [h1 z (by omega), ab_upd_off _ _ (by omega), ab_upd_off _ _ (by omega)]
  have outer : ∀ (d g : Nat) (x3 : Int32) (τ : ab_M) (o4 : Option ab_V), g + d = n + 1 → x3 = dn g → TI n τ → fY σ τ → ev mX6_lay 20 [some (.inr (.inr 37)), some (.inl (nI n)), some (.inr (.inr 1)), some (.inl x3), o4] [] τ Q := by
    intro d
    induction d with
    | zero =>
      intro g x3 τ o4 hg hx t1 f1
      subst hx
      exact s_X6_lay_20 ⟨fun _ => k τ t1 f1, fun h2 => absurd ((dn_le (by omega) (by omega)).mpr (by omega)) h2⟩
    | succ d ih =>
      intro g x3 τ o4 hg hx t1 f1
      subst hx
      refine s_X6_lay_20 ⟨fun h2 => absurd ((dn_le (by omega) (by omega)).mp h2) (by omega), fun _ => ?_⟩
      have inner : ∀ (e a : Nat) (τ : ab_M), a + e = 8 → TI n τ → fY σ τ → ev mX6_lay 28 [some (.inr (.inr 37)), some (.inl (nI n)), some (.inr (.inr 1)), some (.inl (dn g)), some (.inl (nI a))] [] τ Q := by
        intro e
        induction e with
        | zero =>
          intro a τ ha t1 f1
          refine s_X6_lay_28 ⟨fun _ => ih (g + 1) _ τ _ (by omega) (dn_1 g) t1 f1, fun h2 => absurd (nI_le (a := 8) (by omega) (by omega)) h2⟩
        | succ e ihe =>
          intro a τ ha t1 f1
          refine s_X6_lay_28 ⟨fun h2 => absurd h2 (nI_ge (b := 8) (by omega) (by decide)), fun _ => ?_⟩
          refine ar_s (fun r2 => ⟨_, rfl, ls_s (by omega) t1 (fun υ t2 f2 => ⟨rfl, ?_⟩)⟩)
          rw [nI_1]
          exact ihe (a + 1) υ (by omega) t2 (f1.tr f2)
      exact inner 8 0 τ (by omega) t1 f1
  exact outer (n + 1) 0 (-1) τ _ (by omega) rfl t0 f0
end LY
/-- what the search writes -/
def fS (σ τ : ab_M) : Prop := ∀ z, (z < 37 ∨ 49 ≤ z) → τ z = σ z
theorem fS.rf {σ : ab_M} : fS σ σ := fun _ _ => rfl
theorem fS.tr {σ τ υ : ab_M} (h1 : fS σ τ) (h2 : fS τ υ) : fS σ υ := fun z hz => (h2 z hz).trans (h1 z hz)
theorem fS.up {σ τ : ab_M} (h : fS σ τ) {q k : Nat} {v : Int32} (hq : 37 ≤ q ∧ q < 49) : fS σ (ab_upd τ q k v) := fun z hz => by
  rw [ab_upd_off _ _ (by omega)]
  exact h z hz
section FD
variable {σ : ab_M} {Q : Option ab_V → ab_M → Prop}
theorem be_s {n m : Nat} (hn : n ≤ 4) (hC : CI m σ) (k : ∀ r τ, TI n τ → fS σ τ → Q (some (.inl r)) τ) : evm mX4_begin [.inr (.inr 45), .inl (nI n), .inr (.inr 1)] σ Q := by
  refine s_X4_begin_0 (la_s hn (fun τ t1 f1 => ⟨rfl, by decide, ?_⟩))
  have f2 : fS σ (ab_upd τ 48 (0 : Int32).toNatClampNeg (-1)) := fS.up (fun z hz => f1 z (by omega)) (by omega)
  have t2 : TI n (ab_upd τ 48 (0 : Int32).toNatClampNeg (-1)) := TI_of t1 (ab_upd_off _ _ (by decide)) (ab_upd_off _ _ (by decide))
  have hC2 := CI_of hC (fun z hz => f2 z (by omega))
  refine sb_s t2 hC2 (fun r3 υ _ u1 => ⟨_, rfl, fun _ => ?_, fun _ => ?_⟩)
  · have t3 : TI n υ := TI_of t2 (u1 37 (by omega)) (u1 39 (by omega))
    obtain ⟨a1, a2, c, a3, a4, a5⟩ := t3
    have tc : TC n c υ := ⟨a1, a2, a3, a4, a5⟩
    refine fi_s (r := 1) tc (CI_of hC2 (fun z hz => u1 z (by omega))) (by omega) rfl (fun v ω w1 => ⟨_, rfl, k _ ω (tc.mv w1).ti (fun z hz => ?_)⟩)
    rw [w1 z (by omega), u1 z (by omega), f2 z hz]
  · exact k _ υ (TI_of t2 (u1 37 (by omega)) (u1 39 (by omega))) (fun z hz => by rw [u1 z (by omega), f2 z hz])
/-- what find writes: the search's cells, and the object's own two numbers -/
def fD (σ τ : ab_M) : Prop := (∀ z, z ≠ 0 → (z < 37 ∨ 49 ≤ z) → τ z = σ z) ∧ (∀ t, t ≠ 8 → t ≠ 9 → τ 0 t = σ 0 t)
theorem fD.of {σ τ : ab_M} (h : fS σ τ) : fD σ τ := ⟨fun z _ hz => h z hz, fun t _ _ => by rw [h 0 (by omega)]⟩
theorem fD.tr {σ τ υ : ab_M} (h1 : fD σ τ) (h2 : fD τ υ) : fD σ υ := ⟨fun z z0 hz => (h2.1 z z0 hz).trans (h1.1 z z0 hz), fun t a b => (h2.2 t a b).trans (h1.2 t a b)⟩
theorem fD.up {σ τ : ab_M} (h : fD σ τ) {k : Nat} {v : Int32} (hk : k = 8 ∨ k = 9) : fD σ (ab_upd τ 0 k v) := ⟨fun z z0 hz => by rw [ab_upd_off _ _ z0]; exact h.1 z z0 hz, fun t a b => by rw [ab_upd_eq, if_neg (by omega)]; exact h.2 t a b⟩
theorem CI.mv {m : Nat} {τ : ab_M} (h : CI m σ) (f : fD σ τ) : CI m τ := by
  obtain ⟨a, b, c⟩ := h
  refine ⟨a, by rw [f.1 5 (by omega) (by omega)]; exact b, fun i hi => ?_⟩
  rw [f.1 (7 + 3 * i) (by omega) (by omega)]
  exact c i hi
/-- the class's own state: its tables, and the size found -/
def DI (σ : ab_M) : Prop := (∃ n, TI n σ) ∧ ∃ f, f ≤ 4 ∧ σ 0 8 = nI f
theorem fd_s {m : Nat} {x : Int32} (hC : CI m σ) (hD : DI σ) (k : ∀ r τ, DI τ → fD σ τ → Q (some (.inl r)) τ) : evm mX7_find [.inr (.inr 0), .inl x] σ Q := by
  have f0 : fD σ (ab_upd σ 45 6 0) := fD.of (fS.rf.up (by omega))
  have d0 : DI (ab_upd σ 45 6 0) := by
    obtain ⟨⟨n, hn⟩, f, g1, g2⟩ := hD
    exact ⟨⟨n, TI_of hn (ab_upd_off _ _ (by decide)) (ab_upd_off _ _ (by decide))⟩, f, g1, by rw [ab_upd_off _ _ (by decide)]; exact g2⟩
  refine s_X7_find_0 (s_X4_countAnew_0 ⟨rfl, fun _ => k _ _ d0 f0, fun h1 => ⟨fun h4 => ?_, fun _ => k _ _ d0 f0⟩⟩)
  obtain ⟨w, w1, w4, rfl⟩ := lo_n h1 h4
  have loop : ∀ (d a : Nat) (τ : ab_M) (o3 : Option ab_V), a + d = w + 1 → 1 ≤ a → DI τ → fD σ τ → ev mX7_find 26 [some (.inr (.inr 0)), some (.inl (nI w)), some (.inl (nI a)), o3] [] τ Q := by
    intro d
    induction d with
    | zero =>
      intro a τ o3 ha a1 d1 f1
      exact s_X7_find_26 ⟨fun _ => k _ τ d1 f1, fun h => absurd (nI_lt (by omega) (by omega)) h⟩
    | succ d ih =>
      intro a τ o3 ha a1 d1 f1
      refine s_X7_find_26 ⟨fun h => absurd h (nI_nlt (by omega) (by omega)), fun _ => ?_⟩
      refine be_s (by omega) (hC.mv f1) (fun r2 υ t2 s2 => ⟨_, rfl, ?_⟩)
      have f2 : fD σ υ := f1.tr (fD.of s2)
      have d2 : DI υ := by
        obtain ⟨_, f, g1, g2⟩ := d1
        exact ⟨⟨a, t2⟩, f, g1, by rw [s2 0 (by omega)]; exact g2⟩
      refine ⟨fun _ => k _ υ d2 f2, fun _ => ⟨fun _ => ?_, fun _ => ?_⟩⟩
      · refine k _ _ ⟨⟨a, TI_of (TI_of t2 (ab_upd_off _ _ (by decide)) (ab_upd_off _ _ (by decide))) (ab_upd_off _ _ (by decide)) (ab_upd_off _ _ (by decide))⟩, a, by omega, ?_⟩ ((f2.up (Or.inl rfl)).up (Or.inr rfl))
        rw [ab_upd_eq, if_neg (by decide), ab_upd_same]
      · rw [nI_1]
        exact ih (a + 1) υ _ (by omega) (by omega) d2 f2
  refine loop w 1 _ _ (by omega) (by omega) ?_ (f0.up (Or.inl rfl))
  obtain ⟨⟨n, hn⟩, _⟩ := d0
  exact ⟨⟨n, TI_of hn (ab_upd_off _ _ (by decide)) (ab_upd_off _ _ (by decide))⟩, 0, by omega, ab_upd_same _ _ _ _⟩
theorem mo_s {m : Nat} (hC : CI m σ) (hD : DI σ) (k : ∀ r τ, DI τ → fD σ τ → Q (some (.inl r)) τ) : evm mX7_more [.inr (.inr 0)] σ Q := by
  have f0 : fD σ (ab_upd σ 45 6 0) := fD.of (fS.rf.up (by omega))
  obtain ⟨⟨n, hn⟩, f, g1, g2⟩ := hD
  have t0 : TI n (ab_upd σ 45 6 0) := TI_of hn (ab_upd_off _ _ (by decide)) (ab_upd_off _ _ (by decide))
  have e0 : (ab_upd σ 45 6 0) 0 8 = nI f := by rw [ab_upd_off _ _ (by decide)]; exact g2
  have d0 : DI (ab_upd σ 45 6 0) := ⟨⟨n, t0⟩, f, g1, e0⟩
  refine s_X7_more_0 (s_X4_countAnew_0 ⟨rfl, fun _ => k _ _ d0 f0, fun _ => ⟨fun _ => ?_, fun _ => k _ _ d0 f0⟩⟩)
  obtain ⟨a1, a2, c, a3, a4, a5⟩ := t0
  have tc : TC n c (ab_upd σ 45 6 0) := ⟨a1, a2, a3, a4, a5⟩
  refine s_X4_goOn_0 (s_X6_count_0 ⟨_, rfl, ?_⟩)
  refine fi_s (r := c) tc (hC.mv f0) (by omega) (by rw [a4]; rfl) (fun v ω w1 => ⟨_, rfl, ⟨_, rfl, ?_⟩⟩)
  have fw : fD σ ω := f0.tr (fD.of (fun z hz => w1 z (by omega)))
  have e8 : ω 0 8 = nI f := by rw [w1 0 (by omega)]; exact e0
  refine ⟨fun _ => k _ ω ⟨⟨n, (tc.mv w1).ti⟩, f, g1, e8⟩ fw, fun _ => k _ _ ⟨⟨n, TI_of (tc.mv w1).ti (ab_upd_off _ _ (by decide)) (ab_upd_off _ _ (by decide))⟩, 0, by omega, ab_upd_same _ _ _ _⟩ (fw.up (Or.inl rfl))⟩
theorem ia_s {x : Int32} (k : ∀ r, Q (some (.inl r)) σ) : evm mX7_isArgument [.inr (.inr 0), .inl x] σ Q := by
  refine s_X7_isArgument_0 ?_
  first | exact ⟨fun _ => k _, fun _ => ⟨fun _ => k _, fun _ => k _⟩⟩ | exact ⟨fun _ => k _, fun _ => k _⟩
theorem co_s {x : Int32} (k : ∀ r, Q (some (.inl r)) σ) : evm mX7_codeOf [.inl x] σ Q := x_codeOf σ x (k _)
theorem vl_s {x y z : Int32} (k : ∀ r, Q (some (.inl r)) σ) : evm mX7_value [.inr (.inr 0), .inl x, .inl y, .inl z] σ Q := by
  have fin : ∀ {a b c : Int32}, evm mX7_isArgument [.inr (.inr 0), .inl b] σ (fun v τ5 => ∃ r6 : Int32, v = some (.inl r6) ∧ ((r6 = 0 → Q (some (.inl (-1))) τ5) ∧ (¬ r6 = 0 → evm mX7_isArgument [.inr (.inr 0), .inl c] τ5 (fun v τ7 => ∃ r8 : Int32, v = some (.inl r8) ∧ ((r8 = 0 → Q (some (.inl (-1))) τ7) ∧ (¬ r8 = 0 → evm mX6_cellOf [.inl a, .inl b, .inl c] τ7 (fun v τ9 => ∃ r10 : Int32, v = some (.inl r10) ∧ evm mX6_valueOf [.inr (.inr 37), .inl r10] τ9 (fun v τ11 => ∃ r12 : Int32, v = some (.inl r12) ∧ Q (some (.inl r12)) τ11)))))))) := by
    intro a b c
    exact ia_s (fun r6 => ⟨_, rfl, fun _ => k _, fun _ => ia_s (fun r8 => ⟨_, rfl, fun _ => k _, fun _ => s_X6_cellOf_0 ⟨_, rfl, va_s (fun r12 => ⟨_, rfl, k _⟩)⟩⟩)⟩)
  exact s_X7_value_0 (co_s (fun r2 => ⟨_, rfl, ar_s (fun r4 => ⟨_, rfl, fun _ => k _, fun _ => ⟨fun _ => k _, fun _ => ⟨fun _ => ⟨fun _ => fin, fun _ => fin⟩, fun _ => ⟨fun _ => fin, fun _ => fin⟩⟩⟩⟩)⟩))
/-- holdsInStructure: the question's text is kept -/
theorem hs_s {L : Nat} (hL : L ≤ 60) (h2 : σ 34 2 = nI L) (hD : DI σ) (k : ∀ r τ, (∀ z, (z < 42 ∨ (45 ≤ z ∧ z ≠ 49)) → τ z = σ z) → Q (some (.inl r)) τ) : evm mX7_holdsInStructure [.inr (.inr 0)] σ Q := by
  obtain ⟨_, f, hf, ef⟩ := hD
  have hc : Cl 34 := ⟨9, by omega, rfl⟩
  have zs : ∀ r : Int32, (r = 1 ∨ r = nI f) → ∃ X : Nat, X ≤ 4 ∧ r = nI X := by
    intro r hr
    rcases hr with rfl | rfl
    · exact ⟨1, by omega, rfl⟩
    · exact ⟨f, hf, rfl⟩
  have step : ∀ {X a : Nat}, X ≤ 4 → a ≤ 4 → (nI X ≤ nI a ↔ X ≤ a) := fun h1 h2 => nI_leI (by omega) (by omega)
  have xl : ∀ (dx a : Nat) (τ : ab_M) (o2 o3 : Option ab_V), a + dx = 4 → fL σ τ → ev mX7_holdsInStructure 2 [some (.inr (.inr 0)), some (.inl (nI a)), o2, o3] [] τ Q := by
    intro dx
    induction dx with
    | zero =>
      intro a τ o2 o3 ha f1
      refine s_X7_holdsInStructure_2 (ch_s (v := 0) hc (by decide) (fun r2 e2 => ⟨_, rfl, ?_⟩))
      rw [f1 0 (by omega), ef] at e2
      obtain ⟨X, hX, rfl⟩ := zs r2 e2
      exact ⟨fun _ => k _ τ (fun z hz => f1 z (by omega)), fun h => absurd ((step hX (by omega)).mpr (by omega)) h⟩
    | succ dx ihx =>
      intro a τ o2 o3 ha f1
      refine s_X7_holdsInStructure_2 (ch_s (v := 0) hc (by decide) (fun r2 e2 => ⟨_, rfl, fun _ => k _ τ (fun z hz => f1 z (by omega)), fun _ => ?_⟩))
      have yl : ∀ (dy b : Nat) (τ : ab_M) (o3 : Option ab_V), b + dy = 4 → fL σ τ → ev mX7_holdsInStructure 20 [some (.inr (.inr 0)), some (.inl (nI a)), some (.inl (nI b)), o3] [] τ Q := by
        intro dy
        induction dy with
        | zero =>
          intro b τ o3 hb f1
          refine s_X7_holdsInStructure_20 (ch_s (v := 1) hc (by decide) (fun r2 e2 => ⟨_, rfl, ?_⟩))
          rw [f1 0 (by omega), ef] at e2
          obtain ⟨Y, hY, rfl⟩ := zs r2 e2
          refine ⟨fun _ => ?_, fun h => absurd ((step hY (by omega)).mpr (by omega)) h⟩
          rw [nI_1]
          exact ihx (a + 1) τ _ _ (by omega) f1
        | succ dy ihy =>
          intro b τ o3 hb f1
          refine s_X7_holdsInStructure_20 (ch_s (v := 1) hc (by decide) (fun r2 e2 => ⟨_, rfl, fun _ => ?_, fun _ => ?_⟩))
          · rw [nI_1]
            exact ihx (a + 1) τ _ _ (by omega) f1
          · have zl : ∀ (dz e : Nat) (τ : ab_M), e + dz = 4 → fL σ τ → ev mX7_holdsInStructure 38 [some (.inr (.inr 0)), some (.inl (nI a)), some (.inl (nI b)), some (.inl (nI e))] [] τ Q := by
              intro dz
              induction dz with
              | zero =>
                intro e τ he f1
                refine s_X7_holdsInStructure_38 (ch_s (v := 2) hc (by decide) (fun r2 e2 => ⟨_, rfl, ?_⟩))
                rw [f1 0 (by omega), ef] at e2
                obtain ⟨Z, hZ, rfl⟩ := zs r2 e2
                refine ⟨fun _ => ?_, fun h => absurd ((step hZ (by omega)).mpr (by omega)) h⟩
                rw [nI_1]
                exact ihy (b + 1) τ _ (by omega) f1
              | succ dz ihz =>
                intro e τ he f1
                refine s_X7_holdsInStructure_38 (ch_s (v := 2) hc (by decide) (fun r2 e2 => ⟨_, rfl, fun _ => ?_, fun _ => ?_⟩))
                · rw [nI_1]
                  exact ihy (b + 1) τ _ (by omega) f1
                · have eq : τ 34 2 = nI L := by rw [f1 34 (by omega)]; exact h2
                  refine ib_s hc hL eq (fun r4 υ u1 => ⟨_, rfl, fun _ => ?_, fun _ => ⟨by decide, by decide, by decide, k _ _ (fun z hz => ?_)⟩⟩)
                  · rw [nI_1]
                    exact ihz (e + 1) υ (by omega) (f1.tr u1)
                  · rw [ab_upd_off _ _ (by omega), ab_upd_off _ _ (by omega), ab_upd_off _ _ (by omega), u1 z (by omega), f1 z (by omega)]
            exact zl 4 0 τ (by omega) f1
      exact yl 4 0 τ _ (by omega) f1
  exact s_X7_holdsInStructure_0 (xl 4 0 σ _ _ (by omega) fL.rf)
end FD

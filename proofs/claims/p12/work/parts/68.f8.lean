/-- the pile's height where the reading is at a state -/
def ht (s : Int32) : Nat := if s < 0 then 1 else s.toInt.toNat
theorem sy_aw : ∀ b, b < 256 → (80 ≤ b ∧ b ≤ 83) → sy b = b - 76 := by decide +kernel
theorem sy_tw : ∀ b, b < 256 → (97 ≤ b ∧ b ≤ 100) → sy b = b - 97 := by decide +kernel
theorem arok_n {x : Int32} (h : arok x) (h0 : ¬ x < 0) : ∃ w, w ≤ 2 ∧ x = nI w := by
  rcases h with rfl | rfl | rfl | rfl
  · exact absurd (by decide) h0
  · exact ⟨0, by omega, rfl⟩
  · exact ⟨1, by omega, rfl⟩
  · exact ⟨2, by omega, rfl⟩
theorem ht_n {w : Nat} (h : w < 2 ^ 31) : ht (nI w) = w := by
  unfold ht
  rw [if_neg (nI_pos h), nI_toInt h]
  omega
theorem au_pop {ar : Nat → Int32} (har : ∀ j, j < 8 → arok (ar j)) {p b : Nat} (hp : p ≤ 60) (hb : b < 256) {s s' : Int32} (hs : sok p s) (e : au ar s b = some s') : (s = 0 ∧ b = 124) ∨ ∃ w, pops ar b w ∧ w ≤ ht s' ∧ ht s = ht s' - w + 1 := by
  unfold au at e
  split at e
  · rename_i h0
    split at e
    · rename_i h1
      exact Or.inl ⟨h0, h1⟩
    · cases e
  · rename_i h0
    split at e
    · rename_i h1
      cases e
      refine Or.inr ⟨1, Or.inr (Or.inr (Or.inr ⟨h1.2, rfl⟩)), by decide, ?_⟩
      rw [h1.1]
      decide
    · split at e
      · rename_i h2
        split at e
        · cases e
        · rename_i hw
          cases e
          obtain ⟨w, w2, ew⟩ := arok_n (aw_arok har b) hw
          refine Or.inr ⟨w, ?_, ?_, ?_⟩
          · unfold aw at ew
            split at ew
            · rename_i h3
              exact Or.inr (Or.inr (Or.inl ⟨h3, ((nI_eq (a := 2) (b := w) (by decide) (by omega)).mp ew).symm⟩))
            · split at ew
              · rename_i h3
                have q := sy_aw b hb h3
                exact Or.inr (Or.inl ⟨by omega, w2, by rw [q]; exact ew⟩)
              · exfalso
                rw [← Int32.toInt_inj, nI_toInt (by omega), li_m1] at ew
                omega
          · rw [ew, ht_n (by omega)]
            exact Nat.le_refl _
          · rw [ew, ht_n (by omega)]
            unfold ht
            rw [if_pos h2]
            omega
      · rename_i hn
        split at e
        · cases e
        · rename_i hw
          cases e
          obtain ⟨w, w2, ew⟩ := arok_n (tw_arok har b) hw
          have h3 : 0 ≤ s.toInt ∧ s.toInt ≤ p + 2 := by
            rcases hs with rfl | rfl | h3
            · exact absurd (by decide) hn
            · exact absurd (by decide) hn
            · exact h3
          have h4 : s.toInt ≠ 0 := fun q => h0 (Int32.toInt_inj.mp (by rw [q, li_0]))
          obtain ⟨a, ha, es⟩ : ∃ a : Nat, a ≤ 61 ∧ s = nI (a + 1) := by
            obtain ⟨a, ha, e⟩ := nI_of hn
            rw [e, nI_toInt ha] at h3 h4
            exact ⟨a - 1, by omega, by rw [e]; congr 1; omega⟩
          have et : (s - 1) + tw ar b = nI (a + w) := by rw [es, nI_pred, ew, nI_add]
          rw [et, ht_n (by omega), es, ht_n (by omega)]
          refine Or.inr ⟨w, ?_, by omega, by omega⟩
          unfold tw at ew
          split at ew
          · rename_i h5
            exact Or.inl ⟨h5.1, h5.2, ((nI_eq (a := 0) (b := w) (by decide) (by omega)).mp ew).symm⟩
          · split at ew
            · rename_i h5
              have q := sy_tw b hb h5
              exact Or.inr (Or.inl ⟨by omega, w2, by rw [q]; exact ew⟩)
            · exfalso
              rw [← Int32.toInt_inj, nI_toInt (by omega), li_m1] at ew
              omega
theorem aur_st {ar : Nat → Int32} {T : Nat → Nat} (har : ∀ j, j < 8 → arok (ar j)) : ∀ (d p : Nat) (s : Int32), p + d ≤ 60 → sok p s → aur ar T d p s = none → ∃ st : Nat → Int32, st p = s ∧ st (p + d) = 0 ∧ ∀ q, p ≤ q → q < p + d → au ar (st q) (T q) = some (st (q + 1)) ∧ sok q (st q) := by
  intro d
  induction d with
  | zero =>
    intro p s hp hs h
    unfold aur at h
    split at h
    · rename_i h0
      exact ⟨fun _ => s, rfl, h0, fun q a b => by omega⟩
    · cases h
  | succ d ih =>
    intro p s hp hs h
    unfold aur at h
    split at h
    · cases h
    · rename_i s' e
      obtain ⟨st, h1, h2, h3⟩ := ih (p + 1) s' (by omega) (au_sok har (by omega) hs e) h
      refine ⟨fun q => if q = p then s else st q, by simp, ?_, fun q a b => ?_⟩
      · simp only
        rw [if_neg (by omega)]
        rw [show p + (d + 1) = p + 1 + d from by omega]
        exact h2
      · simp only
        rw [if_neg (by omega : ¬ q + 1 = p)]
        by_cases hq : q = p
        · rw [if_pos hq, hq, h1]
          exact ⟨e, hs⟩
        · rw [if_neg hq]
          exact h3 q (by omega) (by omega)
/-- a text is kept at a place of the reference, well formed -/
def KM (i : Nat) (σ : ab_M) : Prop := ∃ (L : Nat) (T : Nat → Nat), L ≤ 60 ∧ σ 54 i = nI L ∧ (∀ t, t < L → σ 53 (60 * i + t) = nI (T t) ∧ T t < 256) ∧ aur (σ 51) T L 0 (-2) = none
def AR (σ : ab_M) : Prop := ∀ j, j < 8 → arok (σ 51 j)
theorem KM.of {i : Nat} {σ τ : ab_M} (h : KM i σ) (h1 : τ 51 = σ 51) (h3 : τ 53 = σ 53) (h4 : τ 54 = σ 54) : KM i τ := by
  obtain ⟨L, T, a, b, c, d⟩ := h
  exact ⟨L, T, a, by rw [h4]; exact b, by rw [h3]; exact c, by rw [h1]; exact d⟩
theorem i60 {i t : Nat} : 60 * nI i + nI t = nI (60 * i + t) := by
  show nI 60 * nI i + nI t = _
  rw [pk_mul, nI_add]
section BK
variable {σ : ab_M} {Q : Option ab_V → ab_M → Prop}
theorem bk_s {i : Nat} (hi : i < 9) (hA : AR σ) (hK : KM i σ) (hN : NI σ) (hV : VI σ) (k : ∀ (r : Int32) τ, fP σ τ → Q (some (.inl r)) τ) : evm mX8_isBroken [.inr (.inr 50), .inl (nI i)] σ Q := by
  obtain ⟨L, T, hL, h4, h3, ha⟩ := hK
  obtain ⟨st, s0, sL, ss⟩ := aur_st hA L 0 (-2) (by omega) (Or.inl rfl) ha
  rw [Nat.zero_add] at sL
  have loop : ∀ (p : Nat) (x2 : Int32) (τ : ab_M) (o4 : Option ab_V), p ≤ L → PI (ht (st p)) τ → ht (st p) ≤ L - p → fP σ τ → ev mX8_isBroken 16 [some (.inr (.inr 50)), some (.inl (nI i)), some (.inl x2), some (.inl (dn p)), o4] [] τ Q := by
    intro p
    induction p with
    | zero =>
      intro x2 τ o4 hp P hl f
      exact s_n_X8_isBroken_16 ⟨fun _ => ⟨fun _ => k _ τ f, fun _ => ⟨by decide, fun _ => k _ τ f, fun _ => k _ τ f⟩⟩, fun q => absurd dn_0 q⟩
    | succ p ih =>
      intro x2 τ o4 hp P hl f
      rw [dn_s]
      obtain ⟨e1, e2⟩ := ss p (by omega) (by omega)
      have hb := (h3 p (by omega)).2
      refine s_n_X8_isBroken_16 ⟨fun _ => ⟨fun _ => k _ τ f, fun _ => ⟨by decide, fun _ => k _ τ f, fun _ => k _ τ f⟩⟩, fun _ => ⟨fun _ => ⟨fun _ => k _ τ f, fun _ => ⟨by decide, fun _ => k _ τ f, fun _ => k _ τ f⟩⟩, fun _ => ?_⟩⟩
      rw [i60, nI_clamp (by omega), f.1 53 (by decide) (by decide), (h3 p (by omega)).1, dn_m]
      refine ⟨inN (by omega) (by decide), fun q => ?_, fun q => ?_⟩
      · have q1 : T p = 124 := (nI_eq (b := 124) (by omega) (by decide)).mp q
        have z : st p = 0 := by
          rcases au_pop hA (by omega) hb e2 e1 with h | ⟨w, hw, _⟩
          · exact h.1
          · exfalso
            rw [q1] at hw
            rcases hw with h | h | h | h
            · omega
            · exact absurd h.1 (by decide)
            · omega
            · omega
        have P0 : ∀ τ1, τ1 = ab_upd τ 50 18 0 → PI (ht (st p)) τ1 ∧ fP σ τ1 := fun τ1 e => by
          rw [e, z]
          exact ⟨⟨ab_upd_same _ _ _ _, by decide, fun t ht => absurd ht (by show ¬ t < 0; omega)⟩, f.u50⟩
        have l0 : ht (st p) ≤ L - p := by rw [z]; exact Nat.zero_le _
        exact ⟨by decide, fun _ τ1 e => ih _ τ1 _ (by omega) (P0 τ1 e).1 l0 (P0 τ1 e).2, fun _ τ1 e => ih _ τ1 _ (by omega) (P0 τ1 e).1 l0 (P0 τ1 e).2⟩
      · rcases au_pop hA (by omega) hb e2 e1 with h | ⟨w, hw, w1, w2⟩
        · exact absurd (by rw [h.2]; rfl) q
        · refine st_s hb (by rw [f.1 51 (by decide) (by decide)]; exact hw) w1 (by omega) P (hN.mv f) (hV.mv f) (fun υ p2 f2 => ⟨rfl, ih _ υ _ (by omega) (by rw [w2]; exact p2) (by omega) (f.tr f2)⟩)
  refine s_n_X8_isBroken_0 (fun τ1 e => ⟨inN hi (by decide), ?_⟩)
  have f1 : fP σ τ1 := by rw [e]; exact fP.rf.u50
  rw [nI_clamp (by omega), f1.1 54 (by decide) (by decide), h4]
  refine loop L _ τ1 _ (Nat.le_refl _) ?_ ?_ f1
  · rw [sL, e]
    exact ⟨ab_upd_same _ _ _ _, by decide, fun t ht => absurd ht (by show ¬ t < 0; omega)⟩
  · rw [sL]
    exact Nat.zero_le _
theorem hs2 {i : Nat} {x : Int32} (hi : i < 9) (hK : KM i σ) (k : ∀ r : Int32, Q (some (.inl r)) σ) : evm mX8_has [.inr (.inr 50), .inl (nI i), .inl x] σ Q := by
  obtain ⟨L, T, hL, h4, h3, ha⟩ := hK
  have e60 : 60 * nI i = nI (60 * i) := pk_mul 60 i
  have ee : 60 * nI i + σ 54 (nI i).toNatClampNeg = nI (60 * i + L) := by rw [nI_clamp (by omega), h4]; exact i60
  have loop : ∀ (d a : Nat) (x3 : Int32), a + d = L → (x3 = 0 ∨ x3 = 1) → ev mX8_has 8 [some (.inr (.inr 50)), some (.inl (nI i)), some (.inl x), some (.inl x3), some (.inl (nI (60 * i + a)))] [] σ Q := by
    intro d
    induction d with
    | zero =>
      intro a x3 h hx
      refine s_X8_has_8 ⟨inN hi (by decide), fun _ => ⟨?_, k _⟩, fun q => absurd (by rw [ee]; exact nI_le (by omega) (by omega)) q⟩
      rcases hx with rfl | rfl <;> decide
    | succ d ih =>
      intro a x3 h hx
      have n1 : nI (60 * i + a) + 1 = nI (60 * i + (a + 1)) := nI_1 _
      refine s_X8_has_8 ⟨inN hi (by decide), fun q => ?_, fun _ => ?_⟩
      · rw [ee] at q
        exact absurd ((nI_leI (by omega) (by omega)).mp q) (by omega)
      · rw [n1]
        exact ⟨fun _ => ⟨inN (by omega) (by decide), fun _ => ih (a + 1) _ (by omega) (Or.inr rfl), fun _ => ih (a + 1) _ (by omega) (Or.inl rfl)⟩, fun _ => ih (a + 1) _ (by omega) (Or.inr rfl)⟩
  refine s_X8_has_0 ?_
  rw [e60]
  exact loop L 0 0 (by omega) (Or.inl rfl)
/-- what breaks writes -/
def fB (σ τ : ab_M) : Prop := (∀ z, z ≠ 50 → z ≠ 59 → z ≠ 61 → τ z = σ z) ∧ (∀ t, t ≠ 18 → τ 50 t = σ 50 t)
theorem fB.rf {σ : ab_M} : fB σ σ := ⟨fun _ _ _ _ => rfl, fun _ _ => rfl⟩
theorem fB.tr {σ τ υ : ab_M} (h1 : fB σ τ) (h2 : fB τ υ) : fB σ υ := ⟨fun z a b c => (h2.1 z a b c).trans (h1.1 z a b c), fun t a => (h2.2 t a).trans (h1.2 t a)⟩
theorem fB.of {σ τ : ab_M} (h : fP σ τ) : fB σ τ := ⟨fun z a _ c => h.1 z a c, h.2⟩
theorem fB.u59 {σ τ : ab_M} (h : fB σ τ) {k : Nat} {v : Int32} : fB σ (ab_upd τ 59 k v) := ⟨fun z a b c => by rw [ab_upd_off _ _ b]; exact h.1 z a b c, fun t a => by rw [ab_upd_off _ _ (by decide)]; exact h.2 t a⟩
theorem KM.mv {i : Nat} {τ : ab_M} (h : KM i σ) (f : fB σ τ) : KM i τ := h.of (f.1 _ (by decide) (by decide) (by decide)) (f.1 _ (by decide) (by decide) (by decide)) (f.1 _ (by decide) (by decide) (by decide))
theorem AR.mv {τ : ab_M} (h : AR σ) (f : fB σ τ) : AR τ := fun j hj => by rw [f.1 51 (by decide) (by decide) (by decide)]; exact h j hj
theorem VI.mb {τ : ab_M} (h : VI σ) (f : fB σ τ) : VI τ := fun j hj => by rw [f.1 55 (by decide) (by decide) (by decide)]; exact h j hj
def d4p (x y z k : Nat) : Bool := decide (1 ≤ y ∧ 1 ≤ z ∧ k < x * y * z → ((nI k / (nI y * nI z)).toInt ≤ 3 ∧ (nI k / nI z - nI k / nI z / nI y * nI y).toInt ≤ 3 ∧ (nI k - nI k / nI z * nI z).toInt ≤ 3))
theorem d4 : ∀ x, x < 5 → ∀ y, y < 5 → ∀ z, z < 5 → ∀ k, k < 64 → d4p x y z k = true := by decide +kernel
theorem br_s {i n : Nat} (hi : i < 9) (hA : AR σ) (hK : KM i σ) (hV : VI σ) (hn : σ 50 7 = nI n) (n1 : 1 ≤ n) (n4 : n ≤ 4) (k : ∀ (r : Int32) τ, fB σ τ → Q (some (.inl r)) τ) : evm mX8_breaks [.inr (.inr 50), .inl (nI i)] σ Q := by
  have loop : ∀ (x y z : Nat), x ≤ 4 → 1 ≤ y → y ≤ 4 → 1 ≤ z → z ≤ 4 → ∀ (d a : Nat) (τ : ab_M), a + d = x * y * z → fB σ τ → ev mX8_breaks 61 [some (.inr (.inr 50)), some (.inl (nI i)), some (.inl (nI x)), some (.inl (nI y)), some (.inl (nI z)), some (.inl (nI a))] [] τ Q := by
    intro x y z x4 y1 y4 z1 z4 d
    have b1 : x * y ≤ 4 * 4 := Nat.mul_le_mul x4 y4
    have b2 : x * y * z ≤ 4 * 4 * 4 := Nat.mul_le_mul b1 z4
    have b3 : y * z ≤ 4 * 4 := Nat.mul_le_mul y4 z4
    have b4 : 1 * 1 ≤ y * z := Nat.mul_le_mul y1 z1
    induction d with
    | zero =>
      intro a τ ha f
      refine s_n_X8_breaks_61 ⟨fun _ => k _ τ f, fun q => absurd ?_ q⟩
      rw [pk_mul, pk_mul]
      exact nI_le (by omega) (by omega)
    | succ d ih =>
      intro a τ ha f
      obtain ⟨g1, g2, g3⟩ := of_decide_eq_true (d4 x (by omega) y (by omega) z (by omega) a (by omega)) ⟨y1, z1, by omega⟩
      refine s_n_X8_breaks_61 ⟨fun q => ?_, fun _ => ⟨?_, by decide, fun τ1 e1 => ⟨nI_ne0 z1 (by omega), nI_ne0 y1 (by omega), by decide, fun τ2 e2 => ⟨nI_ne0 z1 (by omega), by decide, fun τ3 e3 => ?_⟩⟩⟩⟩
      · rw [pk_mul, pk_mul] at q
        exact absurd ((nI_leI (by omega) (by omega)).mp q) (by omega)
      · rw [pk_mul]
        exact nI_ne0 (by omega) (by omega)
      · have f3 : fB σ τ3 := by rw [e3, e2, e1]; exact f.u59.u59.u59
        have N3 : NI τ3 := by
          intro t ht
          rcases (by omega : t = 0 ∨ t = 1 ∨ t = 2) with rfl | rfl | rfl
          · rw [e3, ab_upd_eq, if_neg (by decide), e2, ab_upd_eq, if_neg (by decide), e1]
            exact Int.le_trans (Int.le_of_eq (congrArg Int32.toInt (ab_upd_same _ _ _ _))) g1
          · rw [e3, ab_upd_eq, if_neg (by decide), e2]
            exact Int.le_trans (Int.le_of_eq (congrArg Int32.toInt (ab_upd_same _ _ _ _))) g2
          · rw [e3]
            exact Int.le_trans (Int.le_of_eq (congrArg Int32.toInt (ab_upd_same _ _ _ _))) g3
        refine bk_s hi (hA.mv f3) (hK.mv f3) N3 (hV.mb f3) (fun r υ fu => ⟨_, rfl, fun _ => ?_, fun _ => k _ υ (f3.tr (fB.of fu))⟩)
        rw [nI_1]
        exact ih (a + 1) υ (by omega) (f3.tr (fB.of fu))
  have go : ∀ (x y z : Nat), (x = 1 ∨ x = n) → (y = 1 ∨ y = n) → (z = 1 ∨ z = n) → ev mX8_breaks 61 [some (.inr (.inr 50)), some (.inl (nI i)), some (.inl (nI x)), some (.inl (nI y)), some (.inl (nI z)), some (.inl 0)] [] σ Q := fun x y z h1 h2 h3 => loop x y z (by omega) (by omega) (by omega) (by omega) (by omega) (x * y * z) 0 σ (by omega) fB.rf
  refine s_n_X8_breaks_0 (hs2 hi hK (fun r2 => ⟨_, rfl, fun _ => hs2 hi hK (fun r4 => ⟨_, rfl, fun _ => hs2 hi hK (fun r6 => ⟨_, rfl, fun _ => ?_, fun _ => ?_⟩), fun _ => hs2 hi hK (fun r6 => ⟨_, rfl, fun _ => ?_, fun _ => ?_⟩)⟩), fun _ => hs2 hi hK (fun r4 => ⟨_, rfl, fun _ => hs2 hi hK (fun r6 => ⟨_, rfl, fun _ => ?_, fun _ => ?_⟩), fun _ => hs2 hi hK (fun r6 => ⟨_, rfl, fun _ => ?_, fun _ => ?_⟩)⟩)⟩))
  · exact go 1 1 1 (Or.inl rfl) (Or.inl rfl) (Or.inl rfl)
  · rw [hn]; exact go 1 1 n (Or.inl rfl) (Or.inl rfl) (Or.inr rfl)
  · rw [hn]; exact go 1 n 1 (Or.inl rfl) (Or.inr rfl) (Or.inl rfl)
  · rw [hn]; exact go 1 n n (Or.inl rfl) (Or.inr rfl) (Or.inr rfl)
  · rw [hn]; exact go n 1 1 (Or.inr rfl) (Or.inl rfl) (Or.inl rfl)
  · rw [hn]; exact go n 1 n (Or.inr rfl) (Or.inl rfl) (Or.inr rfl)
  · rw [hn]; exact go n n 1 (Or.inr rfl) (Or.inr rfl) (Or.inl rfl)
  · rw [hn]; exact go n n n (Or.inr rfl) (Or.inr rfl) (Or.inr rfl)
/-- the reference's clauses -/
def CM (m : Nat) (σ : ab_M) : Prop := m ≤ 8 ∧ σ 50 5 = nI m ∧ ∀ i, i < m → KM i σ
theorem CM.mv {m : Nat} {τ : ab_M} (h : CM m σ) (f : fB σ τ) : CM m τ := ⟨h.1, by rw [f.2 5 (by decide)]; exact h.2.1, fun i hi => (h.2.2 i hi).mv f⟩
theorem sm_s {m n : Nat} {x : Int32} (hA : AR σ) (hC : CM m σ) (hV : VI σ) (hn : σ 50 7 = nI n) (n1 : 1 ≤ n) (n4 : n ≤ 4) (k : ∀ (r : Int32) τ, fB σ τ → Q (some (.inl r)) τ) : evm mX8_someBreaks [.inr (.inr 50), .inl x] σ Q := by
  have loop : ∀ (d a : Nat) (x2 : Int32) (τ : ab_M), a + d = m → (x2 = 0 ∨ x2 = 1) → fB σ τ → ev mX8_someBreaks 4 [some (.inr (.inr 50)), some (.inl x), some (.inl x2), some (.inl (nI a))] [] τ Q := by
    intro d
    induction d with
    | zero =>
      intro a x2 τ ha hx f
      have hm := hC.1
      refine s_X8_someBreaks_4 ⟨fun _ => ⟨?_, k _ τ f⟩, fun q => absurd (by rw [(hC.mv f).2.1]; exact nI_le (by omega) (by omega)) q⟩
      rcases hx with rfl | rfl <;> decide
    | succ d ih =>
      intro a x2 τ ha hx f
      have hm := hC.1
      have hK := (hC.mv f).2.2 a (by omega)
      refine s_X8_someBreaks_4 ⟨fun q => ?_, fun _ => ⟨fun _ => ?_, fun _ => ⟨?_, k _ τ f⟩⟩⟩
      · rw [(hC.mv f).2.1] at q
        exact absurd ((nI_leI (by omega) (by omega)).mp q) (by omega)
      · have nn : τ 50 7 = nI n := by rw [f.2 7 (by decide)]; exact hn
        rw [nI_1]
        refine ⟨fun _ => br_s (by omega) (hA.mv f) hK (hV.mb f) nn n1 n4 (fun r υ fu => ⟨_, rfl, fun _ => ih (a + 1) _ υ (by omega) (Or.inl rfl) (f.tr fu), fun _ => ih (a + 1) _ υ (by omega) (Or.inr rfl) (f.tr fu)⟩), fun _ => ?_⟩
        have lt : ∀ y : Int32, evm mX8_has [.inr (.inr 50), .inl (nI a), .inl y] τ (fun v τ3 => ∃ r4 : Int32, v = some (.inl r4) ∧ ((r4 = 0 → ev mX8_someBreaks 4 [some (.inr (.inr 50)), some (.inl x), some (.inl 0), some (.inl (nI (a + 1)))] [] τ3 Q) ∧ (¬ r4 = 0 → evm mX8_breaks [.inr (.inr 50), .inl (nI a)] τ3 (fun v τ5 => ∃ r6 : Int32, v = some (.inl r6) ∧ ((r6 = 0 → ev mX8_someBreaks 4 [some (.inr (.inr 50)), some (.inl x), some (.inl 0), some (.inl (nI (a + 1)))] [] τ5 Q) ∧ (¬ r6 = 0 → ev mX8_someBreaks 4 [some (.inr (.inr 50)), some (.inl x), some (.inl 1), some (.inl (nI (a + 1)))] [] τ5 Q)))))) := fun y =>
          hs2 (by omega) hK (fun r4 => ⟨_, rfl, fun _ => ih (a + 1) _ τ (by omega) (Or.inl rfl) f, fun _ => br_s (by omega) (hA.mv f) hK (hV.mb f) nn n1 n4 (fun r υ fu => ⟨_, rfl, fun _ => ih (a + 1) _ υ (by omega) (Or.inl rfl) (f.tr fu), fun _ => ih (a + 1) _ υ (by omega) (Or.inr rfl) (f.tr fu)⟩)⟩)
        exact s_X8_letterOf_0 ⟨fun _ => ⟨_, rfl, lt _⟩, fun _ => ⟨_, rfl, lt _⟩⟩
      · rcases hx with rfl | rfl <;> decide
  exact s_X8_someBreaks_0 (loop m 0 0 σ (by omega) (Or.inl rfl) fB.rf)
end BK

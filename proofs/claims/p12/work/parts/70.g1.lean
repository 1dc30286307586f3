/-! the reference's walk, find, more, value return -/
def RS (n c t : Nat) (σ : ab_M) : Prop := (σ 50 7 = nI n ∧ n ≤ 4) ∧ (σ 50 8 = nI c ∧ c ≤ 128) ∧ EN c σ ∧ VI σ ∧ (σ 50 14 = nI t ∧ t ≤ 3000)
def FI (σ : ab_M) : Prop := ∃ n c t, RS n c t σ ∧ (σ 50 12 = 0 ∨ 1 ≤ n)
def fV (σ τ : ab_M) : Prop := (∀ z, z ≠ 50 → z ≠ 55 → z ≠ 56 → z ≠ 57 → z ≠ 58 → z ≠ 59 → z ≠ 61 → τ z = σ z) ∧ (∀ t, t = 2 ∨ t = 5 → τ 50 t = σ 50 t)
theorem fV.rf {σ : ab_M} : fV σ σ := ⟨fun _ _ _ _ _ _ _ _ => rfl, fun _ _ => rfl⟩
theorem fV.tr {σ τ υ : ab_M} (h1 : fV σ τ) (h2 : fV τ υ) : fV σ υ := ⟨fun z a b c d e f g => (h2.1 z a b c d e f g).trans (h1.1 z a b c d e f g), fun t a => (h2.2 t a).trans (h1.2 t a)⟩
theorem fV.u55 {σ τ : ab_M} (h : fV σ τ) {k : Nat} {v : Int32} : fV σ (ab_upd τ 55 k v) := ⟨fun z a b c d e f g => by rw [ab_upd_off _ _ b]; exact h.1 z a b c d e f g, fun t a => by rw [ab_upd_off _ _ (by decide)]; exact h.2 t a⟩
theorem fV.u50 {σ τ : ab_M} (h : fV σ τ) {k : Nat} {v : Int32} (hk : k ≠ 2 ∧ k ≠ 5) : fV σ (ab_upd τ 50 k v) := ⟨fun z a b c d e f g => by rw [ab_upd_off _ _ a]; exact h.1 z a b c d e f g, fun t a => by rw [ab_upd_eq, if_neg (by omega)]; exact h.2 t a⟩
theorem fV.ofB {σ τ : ab_M} (h : fB σ τ) : fV σ τ := ⟨fun z a _ _ _ _ b c => h.1 z a b c, fun t a => h.2 t (by omega)⟩
theorem fV.ofL {σ τ : ab_M} (h : fLs σ τ) : fV σ τ := ⟨fun z a b c d e _ _ => h.1 z a b c d e, fun t a => h.2 t (by omega) (by omega)⟩
theorem AR.mw {σ τ : ab_M} (h : AR σ) (f : fV σ τ) : AR τ := fun j hj => by rw [f.1 51 (by decide) (by decide) (by decide) (by decide) (by decide) (by decide) (by decide)]; exact h j hj
theorem KM.mw {i : Nat} {σ τ : ab_M} (h : KM i σ) (f : fV σ τ) : KM i τ := h.of (f.1 _ (by decide) (by decide) (by decide) (by decide) (by decide) (by decide) (by decide)) (f.1 _ (by decide) (by decide) (by decide) (by decide) (by decide) (by decide) (by decide)) (f.1 _ (by decide) (by decide) (by decide) (by decide) (by decide) (by decide) (by decide))
theorem CM.mw {m : Nat} {σ τ : ab_M} (h : CM m σ) (f : fV σ τ) : CM m τ := ⟨h.1, by rw [f.2 5 (by decide)]; exact h.2.1, fun i hi => (h.2.2 i hi).mw f⟩
theorem VI.up {σ : ab_M} (h : VI σ) {k : Nat} {v : Int32} (hv : v.toInt ≤ 3) : VI (ab_upd σ 55 k v) := fun j hj => by
  rw [ab_upd_eq]
  split
  · exact hv
  · exact h j hj
theorem EN.of {c : Nat} {σ τ : ab_M} (h : EN c σ) (h6 : τ 56 = σ 56) (h7 : τ 57 = σ 57) (h8 : τ 58 = σ 58) : EN c τ := fun r hr => by
  rw [h6, h7, h8]
  exact h r hr
theorem RS.u55 {n c t : Nat} {σ : ab_M} (h : RS n c t σ) {k : Nat} {v : Int32} (hv : v.toInt ≤ 3) : RS n c t (ab_upd σ 55 k v) := by
  obtain ⟨a, b, e, v1, d⟩ := h
  rw [← ab_upd_off (q := 55) (k := k) (a := 50) σ v (by decide)] at a b d
  exact ⟨a, b, e.of (ab_upd_off _ _ (by decide)) (ab_upd_off _ _ (by decide)) (ab_upd_off _ _ (by decide)), v1.up hv, d⟩
theorem RS.mb {n c t : Nat} {σ τ : ab_M} (h : RS n c t σ) (f : fB σ τ) : RS n c t τ := by
  obtain ⟨a, b, e, v1, d⟩ := h
  rw [← f.2 _ (by decide)] at a b d
  exact ⟨a, b, e.of (f.1 _ (by decide) (by decide) (by decide)) (f.1 _ (by decide) (by decide) (by decide)) (f.1 _ (by decide) (by decide) (by decide)), v1.mb f, d⟩
theorem RS.u50 {n c t : Nat} {σ : ab_M} (h : RS n c t σ) {k : Nat} {v : Int32} (hk : k ≠ 7 ∧ k ≠ 8 ∧ k ≠ 14) : RS n c t (ab_upd σ 50 k v) := by
  obtain ⟨⟨a, a'⟩, ⟨b, b'⟩, e, v1, d, d'⟩ := h
  exact ⟨⟨by rw [ab_upd_eq, if_neg (by omega)]; exact a, a'⟩, ⟨by rw [ab_upd_eq, if_neg (by omega)]; exact b, b'⟩, e.of (ab_upd_off _ _ (by decide)) (ab_upd_off _ _ (by decide)) (ab_upd_off _ _ (by decide)), fun j hj => by rw [ab_upd_off _ _ (by decide)]; exact v1 j hj, by rw [ab_upd_eq, if_neg (by omega)]; exact d, d'⟩
theorem RS.t {n c t s : Nat} {σ : ab_M} (h : RS n c t σ) {v : Int32} (hv : v = nI s) (hs : s ≤ 3000) : RS n c s (ab_upd σ 50 14 v) := by
  obtain ⟨⟨a, a'⟩, ⟨b, b'⟩, e, v1, d, d'⟩ := h
  exact ⟨⟨by rw [ab_upd_eq, if_neg (by omega)]; exact a, a'⟩, ⟨by rw [ab_upd_eq, if_neg (by omega)]; exact b, b'⟩, e.of (ab_upd_off _ _ (by decide)) (ab_upd_off _ _ (by decide)) (ab_upd_off _ _ (by decide)), fun j hj => by rw [ab_upd_off _ _ (by decide)]; exact v1 j hj, by rw [ab_upd_same]; exact hv, hs⟩
section WK
variable {σ : ab_M} {Q : Option ab_V → ab_M → Prop}
theorem pl_s {c q : Nat} (hc : c ≤ 128) (hq : q < c) (hE : EN c σ) (k : ∀ o, o < 128 → Q (some (.inl (nI o))) σ) : evm mX8_placeOf [.inr (.inr 50), .inl (nI q)] σ Q := by
  obtain ⟨s, i, j, hs, hi, hj, e1, e2, e3⟩ := hE q hq
  have b := inN (j := q) (n := 128) (by omega) (by decide)
  refine s_X8_placeOf_0 ⟨b, b, b, ?_⟩
  rw [nI_clamp (by omega), e1, e2, e3]
  have e : 16 * nI s + 4 * nI i + nI j = nI (16 * s + 4 * i + j) := by
    show nI 16 * nI s + nI 4 * nI i + nI j = _
    rw [pk_mul, pk_mul, nI_add, nI_add]
  rw [e]
  exact k _ (by omega)
theorem lm_s {n c t q : Nat} (hR : RS n c t σ) (hq : q < c) (k : ∀ r : Int32, r.toInt ≤ 3 → Q (some (.inl r)) σ) : evm mX8_limit [.inr (.inr 50), .inl (nI q)] σ Q := by
  obtain ⟨⟨a, a'⟩, ⟨b, b'⟩, hE, hV, d, d'⟩ := hR
  have n3 : (σ 50 7 - 1).toInt ≤ 3 := by
    rw [a, i32_sub (by rw [li_1, nI_toInt (by omega)]; omega) (by rw [li_1, nI_toInt (by omega)]; omega), li_1, nI_toInt (by omega)]
    omega
  have loop : ∀ (e x : Nat) (x2 x3 : Int32) (o5 : Option ab_V), x + e = q → ev mX8_limit 62 [some (.inr (.inr 50)), some (.inl (nI q)), some (.inl x2), some (.inl x3), some (.inl (nI x)), o5] [] σ Q := by
    intro e
    induction e with
    | zero =>
      intro x x2 x3 o5 hx
      refine s_X8_limit_62 ⟨fun _ => ⟨fun _ => k _ n3, fun h => k _ ?_⟩, fun h => absurd (nI_le (by omega) (by omega)) h⟩
      rw [Int32.le_iff_toInt_le] at h
      omega
    | succ e ih =>
      intro x x2 x3 o5 hx
      refine s_X8_limit_62 ⟨fun h => absurd ((nI_leI (by omega) (by omega)).mp h) (by omega), fun _ => pl_s b' (by omega) hE (fun o ho => ⟨_, rfl, inN ho (by decide), inN (by omega) (by decide), ?_⟩)⟩
      rw [nI_1]
      exact ⟨fun _ => ih _ _ _ _ (by omega), fun _ => ⟨fun _ => ih _ _ _ _ (by omega), fun _ => ih _ _ _ _ (by omega)⟩⟩
  obtain ⟨s, i, j, hs, hi, hj, e1, e2, e3⟩ := hE q hq
  have b := inN (j := q) (n := 128) (by omega) (by decide)
  have i8 : ab_in (σ 56 (nI q).toNatClampNeg) 8 = true := by rw [nI_clamp (by omega), e1]; exact in8 hs
  have lp : ∀ (x2 x3 : Int32), ev mX8_limit 62 [some (.inr (.inr 50)), some (.inl (nI q)), some (.inl x2), some (.inl x3), some (.inl 0), none] [] σ Q := fun x2 x3 => loop q 0 x2 x3 none (by omega)
  exact s_X8_limit_0 ⟨b, fun _ => ⟨b, i8, fun _ => ⟨fun _ => lp _ _, fun _ => ⟨b, fun _ => lp _ _, fun _ => ⟨b, lp _ _⟩⟩⟩, fun _ => ⟨b, fun _ => lp _ _, fun _ => ⟨b, fun _ => lp _ _, fun _ => ⟨b, lp _ _⟩⟩⟩⟩, fun _ => k _ (by decide)⟩
theorem wk_s {m n c t p : Nat} (hA : AR σ) (hC : CM m σ) (hR : RS n c t σ) (n1 : 1 ≤ n) (hp : p ≤ c + 1) (k : ∀ (r : Int32) s τ, RS n c s τ → fV σ τ → Q (some (.inl r)) τ) : evm mX8_walk [.inr (.inr 50), .inl (dn p)] σ Q := by
  have loop : ∀ (d p t : Nat) (τ : ab_M) (x1 : Int32) (o3 : Option ab_V), (3000 - t) * 200 + p < d → p ≤ c + 1 → RS n c t τ → fV σ τ → ev mX8_walk 2 [some (.inr (.inr 50)), some (.inl x1), some (.inl (dn p)), o3] [] τ Q := by
    intro d
    induction d with
    | zero => intro p t τ x1 o3 hd; omega
    | succ d ih =>
      intro p t τ x1 o3 hd hp hR f
      obtain ⟨⟨a, a'⟩, ⟨b, b'⟩, hE, hV, q, q'⟩ := id hR
      rcases p with _ | p
      · exact s_X8_walk_2 ⟨fun _ => ⟨fun _ => k _ _ τ hR f, fun _ => k _ _ τ hR f⟩, fun h => absurd dn_0 h⟩
      · rw [dn_s]
        refine s_X8_walk_2 ⟨fun _ => ⟨fun _ => k _ _ τ hR f, fun _ => k _ _ τ hR f⟩, fun _ => ⟨fun _ => ⟨fun _ => k _ _ τ hR f, fun _ => k _ _ τ hR f⟩, fun h => ?_⟩⟩
        have pc : p < c := by
          rcases Nat.lt_or_ge p c with g | g
          · exact g
          · exact absurd (by rw [b]; exact nI_le g (by omega)) h
        refine pl_s b' pc hE (fun o ho => ⟨_, rfl, inN ho (by decide), lm_s hR pc (fun r4 hr4 => ⟨_, rfl, fun hv => ⟨fun _ => k _ _ τ hR f, fun ht => ?_⟩, fun _ => pl_s b' pc hE (fun o2 ho2 => ⟨_, rfl, inN ho2 (by decide), ?_⟩)⟩)⟩)
        · have t3 : t + 1 ≤ 3000 := by
            rcases Nat.lt_or_ge t 3000 with g | g
            · exact g
            · exfalso
              have : t = 3000 := by omega
              rw [q, this] at ht
              exact ht rfl
          have hR2 : RS n c (t + 1) (ab_upd τ 50 14 (τ 50 14 + 1)) := hR.t (by rw [q, nI_1]) t3
          have f2 : fV σ (ab_upd τ 50 14 (τ 50 14 + 1)) := f.u50 (by decide)
          have hv3 : (τ 55 (nI o).toNatClampNeg + 1).toInt ≤ 3 := by
            rw [Int32.le_iff_toInt_le] at hv
            omega
          refine pl_s b' pc hR2.2.2.1 (fun o2 ho2 => ⟨_, rfl, inN ho2 (by decide), inN (by omega) (by decide), ?_⟩)
          have hR3 := hR2.u55 (k := (nI o2).toNatClampNeg) hv3
          have f3 := f2.u55 (k := (nI o2).toNatClampNeg) (v := τ 55 (nI o).toNatClampNeg + 1)
          refine sm_s (hA.mw f3) (hC.mw f3) hR3.2.2.2.1 hR3.1.1 n1 a' (fun r8 υ fu => ⟨_, rfl, fun _ => ?_, fun _ => ?_⟩)
          · rw [nI_1, ← dn_s]
            exact ih (p + 2) (t + 1) υ _ _ (by omega) (by omega) (hR3.mb fu) (f3.tr (fV.ofB fu))
          · rw [Int32.add_zero, ← dn_s]
            exact ih (p + 1) (t + 1) υ _ _ (by omega) (by omega) (hR3.mb fu) (f3.tr (fV.ofB fu))
        · rw [dn_m]
          exact ih p t _ _ _ (by omega) (by omega) (hR.u55 (by decide)) f.u55
  exact s_X8_walk_0 (loop _ p t σ _ _ (Nat.lt_succ_self _) hp hR fV.rf)
theorem fd2 {m : Nat} {x : Int32} (hA : AR σ) (hC : CM m σ) (hF : FI σ) (k : ∀ (r : Int32) τ, FI τ → fV σ τ → Q (some (.inl r)) τ) : evm mX8_find [.inr (.inr 50), .inl x] σ Q := by
  have K1 : ∀ (n c t : Nat) (r : Int32) τ (v : Int32), RS n c t τ → fV σ τ → 1 ≤ n → Q (some (.inl r)) (ab_upd (ab_upd τ 50 12 1) 50 13 v) := fun n c t r τ v hR f n1 => k _ _ ⟨n, c, t, (hR.u50 (by decide)).u50 (by decide), Or.inr n1⟩ ((f.u50 (by decide)).u50 (by decide))
  have K0 : ∀ (n c t : Nat) (r : Int32) τ (v : Int32), RS n c t τ → fV σ τ → Q (some (.inl r)) (ab_upd (ab_upd τ 50 12 0) 50 13 v) := fun n c t r τ v hR f => k _ _ ⟨n, c, t, (hR.u50 (by decide)).u50 (by decide), Or.inl (by rw [ab_upd_eq, if_neg (by decide), ab_upd_same])⟩ ((f.u50 (by decide)).u50 (by decide))
  have b1 : ∀ τ : ab_M, ab_fit .boolean ((ab_upd τ 50 12 1) 50 12) = true := fun τ => by rw [ab_upd_same]; decide
  have b0 : ∀ τ : ab_M, ab_fit .boolean ((ab_upd τ 50 12 0) 50 12) = true := fun τ => by rw [ab_upd_same]; decide
  refine s_X8_find_0 ⟨fun _ => k _ _ hF fV.rf, fun h1 => ⟨fun h4 => ?_, fun _ => k _ _ hF fV.rf⟩⟩
  obtain ⟨w, w1, w4, rfl⟩ := lo_n h1 h4
  have loop : ∀ (d a n c t : Nat) (x2 : Int32) (τ : ab_M), a + d = w + 1 → 1 ≤ a → RS n c t τ → (x2 = 1 → 1 ≤ n) → fV σ τ → ev mX8_find 26 [some (.inr (.inr 50)), some (.inl (nI w)), some (.inl x2), some (.inl (nI a))] [] τ Q := by
    intro d
    induction d with
    | zero =>
      intro a n c t x2 τ ha a1 hR hx f
      exact s_X8_find_26 ⟨fun _ => ⟨fun q => ⟨b1 τ, fun _ => K1 n c t _ τ _ hR f (hx q), fun q2 => absurd q q2⟩, fun q => ⟨b0 τ, fun q2 => absurd q2 q, fun _ => K0 n c t _ τ _ hR f⟩⟩, fun h => absurd (nI_lt (by omega) (by omega)) h⟩
    | succ d ih =>
      intro a n c t x2 τ ha a1 hR hx f
      refine s_X8_find_26 ⟨fun h => absurd h (nI_nlt (by omega) (by omega)), fun _ => ⟨fun hz => ?_, fun _ => ⟨fun q => ⟨b1 τ, fun _ => K1 n c t _ τ _ hR f (hx q), fun q2 => absurd q q2⟩, fun q => ⟨b0 τ, fun q2 => absurd q2 q, fun _ => K0 n c t _ τ _ hR f⟩⟩⟩⟩
      refine ls2 a1 (by omega) (fun c2 υ hc2 u7 u8 uE uV fu => ⟨rfl, ?_⟩)
      have hR2 : RS a c2 t υ := ⟨⟨u7, by omega⟩, ⟨u8, hc2⟩, uE, uV, by rw [fu.2 14 (by decide) (by decide)]; exact hR.2.2.2.2⟩
      have f2 : fV σ υ := f.tr (fV.ofL fu)
      rw [nI_1]
      refine sm_s (hA.mw f2) (hC.mw f2) uV u7 a1 (by omega) (fun r3 ω fw => ⟨_, rfl, fun _ => ?_, fun _ => ?_⟩)
      · have f3 := f2.tr (fV.ofB fw)
        refine wk_s (p := 1) (hA.mw f3) (hC.mw f3) (hR2.mb fw) a1 (by omega) (fun r5 s5 ρ hR5 f5 => ⟨_, rfl, ih (a + 1) a c2 s5 r5 ρ (by omega) (by omega) hR5 (fun _ => a1) (f3.tr f5)⟩)
      · exact ih (a + 1) a c2 t _ ω (by omega) (by omega) (hR2.mb fw) (fun _ => a1) (f2.tr (fV.ofB fw))
  obtain ⟨n, c, t, hR, _⟩ := hF
  exact loop w 1 n c 0 0 _ (by omega) (by omega) ((hR.t (s := 0) rfl (by omega)).u50 (by decide)) (fun q => absurd q (by decide)) ((fV.rf.u50 (by decide)).u50 (by decide))
theorem mo2 {m : Nat} (hA : AR σ) (hC : CM m σ) (hF : FI σ) (k : ∀ (r : Int32) τ, FI τ → fV σ τ → Q (some (.inl r)) τ) : evm mX8_more [.inr (.inr 50)] σ Q := by
  refine s_X8_more_0 ⟨fun _ => k _ _ hF fV.rf, fun h12 => ⟨fun _ => k _ _ hF fV.rf, fun _ => ?_⟩⟩
  obtain ⟨n, c, t, hR, hn⟩ := hF
  have n1 : 1 ≤ n := by
    rcases hn with h | h
    · exact absurd h h12
    · exact h
  have hR2 : RS n c 0 (ab_upd σ 50 14 0) := hR.t (s := 0) rfl (by omega)
  have f2 : fV σ (ab_upd σ 50 14 0) := fV.rf.u50 (by decide)
  rw [hR2.2.1.1]
  refine wk_s (p := c) (hA.mw f2) (hC.mw f2) hR2 n1 (by omega) (fun r s τ hR3 f3 => ⟨_, rfl, fun _ => k _ _ ⟨n, c, s, hR3.u50 (by decide), Or.inr n1⟩ ((f2.tr f3).u50 (by decide)), fun _ => k _ _ ⟨n, c, s, hR3.u50 (by decide), Or.inl (ab_upd_same _ _ _ _)⟩ ((f2.tr f3).u50 (by decide))⟩)
end WK

/-! one look, as a function, and the class's look -/
def wn (x : Int32) : Nat := if x = 1 then 1 else if x = 2 then 2 else 0
theorem wn_n {w : Nat} (h : w ≤ 2) : wn (nI w) = w := by
  rcases (by omega : w = 0 ∨ w = 1 ∨ w = 2) with rfl | rfl | rfl <;> decide
def cel (s w : Nat) (S : List Nat) : Nat := 16 * s + 4 * (if w = 0 then 0 else S.headD 0) + (if w = 2 then S.tail.headD 0 else 0)
def lkS (V : Nat → Nat) (s w : Nat) (S : List Nat) : List Nat := if s < 4 then (V (cel s w S) - 1) :: S.drop w else S.drop w
def lkT (V : Nat → Nat) (s w : Nat) (S : List Nat) (tr : Bool) : Bool := if s < 4 then tr else decide (V (cel s w S) = 2)
def lk (V : Nat → Nat) (ar : Nat → Int32) (T X : Nat → Nat) : Nat → List Nat → Bool → Bool × List Nat × Option Nat
  | 0, _, tr => (!tr, [], none)
  | p + 1, S, tr =>
    if 120 ≤ T p ∧ T p ≤ 122 then lk V ar T X p (X (T p - 120) :: S) tr
    else if T p = 61 then lk V ar T X p S.tail.tail (decide (S.headD 0 = S.tail.headD 0))
    else if T p = 33 then lk V ar T X p S (!tr)
    else if T p = 124 then (bif tr then (false, [], none) else lk V ar T X p S tr)
    else if V (cel (sy (T p)) (wn (ar (sy (T p)))) S) = 0 then (false, [], some (cel (sy (T p)) (wn (ar (sy (T p)))) S))
    else ((lk V ar T X p (lkS V (sy (T p)) (wn (ar (sy (T p)))) S) (lkT V (sy (T p)) (wn (ar (sy (T p)))) S tr)).1,
      cel (sy (T p)) (wn (ar (sy (T p)))) S :: (lk V ar T X p (lkS V (sy (T p)) (wn (ar (sy (T p)))) S) (lkT V (sy (T p)) (wn (ar (sy (T p)))) S tr)).2.1,
      (lk V ar T X p (lkS V (sy (T p)) (wn (ar (sy (T p)))) S) (lkT V (sy (T p)) (wn (ar (sy (T p)))) S tr)).2.2)
/-- what a character does to the reading, from behind -/
def auK (ar : Nat → Int32) (s : Int32) (b : Nat) (s' : Int32) : Prop :=
  (s = 0 ∧ b = 124 ∧ s' = -2) ∨ (s = -2 ∧ b = 33 ∧ s' = -1) ∨ (s < 0 ∧ b = 61 ∧ s' = nI 2)
  ∨ (∃ w, s < 0 ∧ 4 ≤ sy b ∧ sy b < 8 ∧ w ≤ 2 ∧ ar (sy b) = nI w ∧ s' = nI w)
  ∨ (∃ a, a ≤ 61 ∧ (120 ≤ b ∧ b ≤ 122) ∧ s = nI (a + 1) ∧ s' = nI a)
  ∨ (∃ a w, a ≤ 61 ∧ sy b < 4 ∧ w ≤ 2 ∧ ar (sy b) = nI w ∧ s = nI (a + 1) ∧ s' = nI (a + w))
theorem au_k {ar : Nat → Int32} (har : ∀ j, j < 8 → arok (ar j)) {p b : Nat} (hp : p ≤ 60) (hb : b < 256) {s s' : Int32} (hs : sok p s) (e : au ar s b = some s') : auK ar s b s' := by
  unfold au at e
  split at e
  · rename_i h0
    split at e
    · rename_i h1
      cases e
      exact Or.inl ⟨h0, h1, rfl⟩
    · cases e
  · rename_i h0
    split at e
    · rename_i h1
      cases e
      exact Or.inr (Or.inl ⟨h1.1, h1.2, rfl⟩)
    · split at e
      · rename_i h2
        split at e
        · cases e
        · rename_i hw
          cases e
          obtain ⟨w, w2, ew⟩ := arok_n (aw_arok har b) hw
          unfold aw at ew ⊢
          split
          · rename_i h3
            exact Or.inr (Or.inr (Or.inl ⟨h2, h3, rfl⟩))
          · rename_i h4
            rw [if_neg h4] at ew
            split
            · rename_i h3
              rw [if_pos h3] at ew
              have q := sy_aw b hb h3
              exact Or.inr (Or.inr (Or.inr (Or.inl ⟨w, h2, by omega, by omega, w2, by rw [q]; exact ew, ew⟩)))
            · rename_i h5
              exfalso
              rw [if_neg h5] at ew
              rw [← Int32.toInt_inj, nI_toInt (by omega), li_m1] at ew
              omega
      · rename_i hn
        split at e
        · cases e
        · rename_i hw
          cases e
          obtain ⟨w, w2, ew⟩ := arok_n (tw_arok har b) hw
          have h3 : 0 ≤ s.toInt ∧ s.toInt ≤ p + 2 := by
            rcases hs with rfl | rfl | h3
            · exact absurd (by decide) hn
            · exact absurd (by decide) hn
            · exact h3
          have h4 : s.toInt ≠ 0 := fun q => h0 (Int32.toInt_inj.mp (by rw [q, li_0]))
          obtain ⟨a, ha, es⟩ : ∃ a : Nat, a ≤ 61 ∧ s = nI (a + 1) := by
            obtain ⟨a, ha, e⟩ := nI_of hn
            rw [e, nI_toInt ha] at h3 h4
            exact ⟨a - 1, by omega, by rw [e]; congr 1; omega⟩
          have et : (s - 1) + tw ar b = nI (a + w) := by rw [es, nI_pred, ew, nI_add]
          rw [et]
          unfold tw at ew
          split at ew
          · rename_i h5
            have w0 : w = 0 := ((nI_eq (a := 0) (b := w) (by decide) (by omega)).mp ew).symm
            exact Or.inr (Or.inr (Or.inr (Or.inr (Or.inl ⟨a, ha, h5, es, by rw [w0]; rfl⟩))))
          · split at ew
            · rename_i h5
              have q := sy_tw b hb h5
              exact Or.inr (Or.inr (Or.inr (Or.inr (Or.inr ⟨a, w, ha, by omega, w2, by rw [q]; exact ew, es, rfl⟩))))
            · exfalso
              rw [← Int32.toInt_inj, nI_toInt (by omega), li_m1] at ew
              omega
def hc (s : Int32) : Nat := if s < 0 then 0 else s.toInt.toNat
theorem hc_n {w : Nat} (h : w < 2 ^ 31) : hc (nI w) = w := by
  unfold hc
  rw [if_neg (nI_pos h), nI_toInt h]
  omega
theorem hc_neg {s : Int32} (h : s < 0) : hc s = 0 := if_pos h
def stk (f : Nat → Int32) : List Nat → Prop
  | [] => True
  | x :: S => f S.length = nI x ∧ stk f S
theorem stk_of {f g : Nat → Int32} : ∀ {S : List Nat}, stk f S → (∀ t, t < S.length → g t = f t) → stk g S := by
  intro S
  induction S with
  | nil => exact fun _ _ => trivial
  | cons x S ih =>
    intro h hg
    exact ⟨by rw [hg _ (by simp)]; exact h.1, ih h.2 (fun t ht => hg t (by simp; omega))⟩
def bI (b : Bool) : Int32 := bif b then 1 else 0
def LSt (S : List Nat) (tr : Bool) (τ : ab_M) : Prop := τ 42 4 = nI S.length ∧ S.length ≤ 60 ∧ stk (τ 44) S ∧ τ 42 5 = bI tr
def gL (σ τ : ab_M) : Prop := fL σ τ ∧ τ 42 6 = σ 42 6 ∧ τ 42 7 = σ 42 7 ∧ τ 43 = σ 43
theorem gL.rf {σ : ab_M} : gL σ σ := ⟨fL.rf, rfl, rfl, rfl⟩
theorem gL.tr {σ τ υ : ab_M} (h1 : gL σ τ) (h2 : gL τ υ) : gL σ υ := ⟨h1.1.tr h2.1, h2.2.1.trans h1.2.1, h2.2.2.1.trans h1.2.2.1, h2.2.2.2.trans h1.2.2.2⟩
section LC
variable {σ : ab_M} {Q : Option ab_V → ab_M → Prop}
theorem pu_f {S : List Nat} {tr : Bool} {x : Nat} (h : LSt S tr σ) (hl : S.length < 60) (k : ∀ τ, LSt (x :: S) tr τ → gL σ τ → Q none τ) : evm mX3_push [.inr (.inr 42), .inl (nI x)] σ Q := by
  obtain ⟨h1, h2, h3, h4⟩ := h
  refine s_X3_push_0 ⟨fun q => ?_, fun _ => ⟨by rw [h1]; exact inN hl (by decide), ?_⟩⟩
  · rw [h1] at q
    exact absurd q (nI_ge (b := 60) hl (by decide))
  · rw [ab_upd_off (q := 44) (a := 42) _ _ (by decide), h1, nI_1, nI_clamp (by omega)]
    refine k _ ⟨by rw [ab_upd_same]; rfl, by simp; omega, ⟨by rw [ab_upd_off _ _ (by decide), ab_upd_same], ?_⟩, by rw [ab_upd_eq, if_neg (by decide), ab_upd_off _ _ (by decide)]; exact h4⟩ ⟨fL.up (fL.up fL.rf (by omega)) (by omega), by rw [ab_upd_eq, if_neg (by decide), ab_upd_off _ _ (by decide)], by rw [ab_upd_eq, if_neg (by decide), ab_upd_off _ _ (by decide)], by rw [ab_upd_off _ _ (by decide), ab_upd_off _ _ (by decide)]⟩
    refine stk_of h3 (fun t ht => ?_)
    rw [ab_upd_off _ _ (by decide), ab_upd_eq, if_neg (by omega)]
theorem po_f {S : List Nat} {tr : Bool} {x : Nat} (h : LSt (x :: S) tr σ) (k : ∀ τ, LSt S tr τ → gL σ τ → Q (some (.inl (nI x))) τ) : evm mX3_pop [.inr (.inr 42)] σ Q := by
  obtain ⟨h1, h2, h3, h4⟩ := h
  have l1 : (x :: S).length = S.length + 1 := rfl
  rw [l1] at h1 h2
  refine s_X3_pop_0 ⟨fun q => ?_, fun _ => ?_⟩
  · rw [h1] at q
    exact absurd q (nI_nle (by omega) (by omega))
  · rw [h1, nI_pred, ab_upd_same]
    refine ⟨inN (by omega) (by decide), ?_⟩
    rw [nI_clamp (by omega), ab_upd_off (q := 42) (a := 44) _ _ (by decide), h3.1]
    exact k _ ⟨ab_upd_same _ _ _ _, by omega, by rw [ab_upd_off _ _ (by decide)]; exact h3.2, by rw [ab_upd_eq, if_neg (by decide)]; exact h4⟩ ⟨fL.up fL.rf (by omega), by rw [ab_upd_eq, if_neg (by decide)], by rw [ab_upd_eq, if_neg (by decide)], by rw [ab_upd_off _ _ (by decide)]⟩
def VVc (V : Nat → Nat) (σ : ab_M) : Prop := ∀ k, k < 128 → σ 38 k = dn (V k) ∧ V k ≤ 4
theorem dn_m1 {v : Nat} (h : v ≤ 4) : dn v = -1 ↔ v = 0 := by
  have : ∀ v, v < 5 → (dn v = -1 ↔ v = 0) := by decide +kernel
  exact this v (by omega)
theorem dn_e1 {v : Nat} (h : v ≤ 4) : dn v = 1 ↔ v = 2 := by
  have : ∀ v, v < 5 → (dn v = 1 ↔ v = 2) := by decide +kernel
  exact this v (by omega)
theorem dn_pos {v : Nat} (h : v ≠ 0) : dn v = nI (v - 1) := by
  obtain ⟨a, rfl⟩ : ∃ a, v = a + 1 := ⟨v - 1, by omega⟩
  exact dn_s a
theorem cel_n {s a b : Nat} : (nI s * 4 + nI a) * 4 + nI b = nI (16 * s + 4 * a + b) := by
  show (nI s * nI 4 + nI a) * nI 4 + nI b = _
  rw [pk_mul, nI_add, pk_mul, nI_add]
  congr 1
  omega
theorem rc_f {V : Nat → Nat} {s w : Nat} {S : List Nat} {tr : Bool} (hs : s < 8) (hw : w ≤ 2) (ha : σ 2 s = nI w) (hl : w ≤ S.length) (h4 : ∀ x ∈ S, x < 4) (hS : LSt S tr σ) (hr : s < 4 → S.length - w < 60) (hV : VVc V σ)
    (k0 : V (cel s w S) = 0 → ∀ τ, fL σ τ → τ 42 6 = σ 42 6 → τ 42 7 = σ 40 (cel s w S) → Q (some (.inl 0)) τ)
    (k1 : ¬ V (cel s w S) = 0 → ∀ τ, fL σ τ → LSt (lkS V s w S) (lkT V s w S tr) τ → τ 42 6 = ab_mm true (σ 42 6) (σ 40 (cel s w S)) → τ 42 7 = σ 42 7 → τ 43 = σ 43 → Q (some (.inl 1)) τ) : evm mX3_readCell [.inr (.inr 42), .inl (nI s)] σ Q := by
  have fin : ∀ (a b : Nat) τ, a < 4 → b < 4 → cel s w S = 16 * s + 4 * a + b → LSt (S.drop w) tr τ → gL σ τ → evm mX6_cellOf [.inl (nI s), .inl (nI a), .inl (nI b)] τ (fun v τ3 => ∃ r4 : Int32, v = some (.inl r4) ∧ evm mX6_rankOf [.inr (.inr 37), .inl r4] τ3 (fun v τ5 => ∃ r6 : Int32, v = some (.inl r6) ∧ evm mX6_valueOf [.inr (.inr 37), .inl r4] τ5 (fun v τ7 => ∃ r8 : Int32, v = some (.inl r8) ∧ ((r8 = (-1) → Q (some (.inl 0)) (ab_upd τ7 42 7 r6)) ∧ (¬ r8 = (-1) → evm mX7_isPredicate [.inl (nI s)] (ab_upd τ7 42 6 (ab_mm true (τ7 42 6) r6)) (fun v τ9 => ∃ r10 : Int32, v = some (.inl r10) ∧ ((r10 = 0 → evm mX3_push [.inr (.inr 42), .inl r8] τ9 (fun v τ11 => v = none ∧ Q (some (.inl 1)) τ11)) ∧ (¬ r10 = 0 → ((r8 = 1 → Q (some (.inl 1)) (ab_upd τ9 42 5 1)) ∧ (¬ r8 = 1 → Q (some (.inl 1)) (ab_upd τ9 42 5 0))))))))))) := by
    intro a b τ a4 b4 ec hS2 g
    refine s_X6_cellOf_0 ⟨_, rfl, ?_⟩
    rw [cel_n, ← ec]
    have c128 : cel s w S < 128 := by omega
    have lt : nI (cel s w S) < 128 := (nI_ltI (b := 128) (by omega) (by decide)).mpr c128
    have n0 : ¬ nI (cel s w S) < 0 := nI_pos (by omega)
    refine s_X6_rankOf_0 ⟨fun q => absurd q n0, fun _ => ⟨fun _ => ⟨inN c128 (by decide), _, rfl, ?_⟩, fun q => absurd lt q⟩⟩
    refine s_X6_valueOf_0 ⟨fun q => absurd q n0, fun _ => ⟨fun _ => ⟨inN c128 (by decide), _, rfl, ?_⟩, fun q => absurd lt q⟩⟩
    rw [nI_clamp (by omega), g.1 38 (by omega), g.1 40 (by omega), (hV _ c128).1, g.2.1]
    have v4 := (hV _ c128).2
    refine ⟨fun q => ?_, fun q => ?_⟩
    · refine k0 ((dn_m1 v4).mp q) _ (g.1.up (by omega)) (by rw [ab_upd_eq, if_neg (by decide)]; exact g.2.1) (ab_upd_same _ _ _ _)
    · have v0 : ¬ V (cel s w S) = 0 := fun e => q ((dn_m1 v4).mpr e)
      have k2 := k1 v0
      generalize hu : ab_upd τ 42 6 (ab_mm true (σ 42 6) (σ 40 (cel s w S))) = υ
      have u6 : υ 42 6 = ab_mm true (σ 42 6) (σ 40 (cel s w S)) := by rw [← hu]; exact ab_upd_same _ _ _ _
      have u7 : υ 42 7 = σ 42 7 := by rw [← hu, ab_upd_eq, if_neg (by decide)]; exact g.2.2.1
      have u43 : υ 43 = σ 43 := by rw [← hu, ab_upd_off _ _ (by decide)]; exact g.2.2.2
      have uf : fL σ υ := by rw [← hu]; exact g.1.up (by omega)
      have uS : LSt (S.drop w) tr υ := by
        obtain ⟨x1, x2, x3, x4⟩ := hS2
        rw [← hu]
        exact ⟨by rw [ab_upd_eq, if_neg (by decide)]; exact x1, x2, by rw [ab_upd_off _ _ (by decide)]; exact x3, by rw [ab_upd_eq, if_neg (by decide)]; exact x4⟩
      refine s_X7_isPredicate_0 ⟨fun p4 => ?_, fun p4 => ⟨fun p8 => absurd p8 (nI_ge (b := 8) hs (by decide)), fun _ => ?_⟩⟩
      · have s4 : s < 4 := (nI_ltI (b := 4) (by omega) (by decide)).mp p4
        refine ⟨_, rfl, fun _ => ?_, fun q => absurd rfl q⟩
        rw [dn_pos v0]
        unfold lkS lkT at k2
        rw [if_pos s4, if_pos s4] at k2
        exact pu_f uS (by rw [List.length_drop]; exact hr s4) (fun ω lw gw => ⟨rfl, k2 ω (uf.tr gw.1) lw (by rw [gw.2.1]; exact u6) (by rw [gw.2.2.1]; exact u7) (by rw [gw.2.2.2]; exact u43)⟩)
      · have s4 : ¬ s < 4 := fun e => p4 ((nI_ltI (b := 4) (by omega) (by decide)).mpr e)
        refine ⟨_, rfl, fun q => absurd q (by decide), fun _ => ?_⟩
        unfold lkS lkT at k2
        rw [if_neg s4, if_neg s4] at k2
        obtain ⟨x1, x2, x3, x4⟩ := uS
        have go : ∀ (t : Bool), decide (V (cel s w S) = 2) = t → Q (some (.inl 1)) (ab_upd υ 42 5 (bI t)) := fun t ht => k2 _ (uf.up (by omega)) (by rw [ht]; exact ⟨by rw [ab_upd_eq, if_neg (by decide)]; exact x1, x2, by rw [ab_upd_off _ _ (by decide)]; exact x3, ab_upd_same _ _ _ _⟩) (by rw [ab_upd_eq, if_neg (by decide)]; exact u6) (by rw [ab_upd_eq, if_neg (by decide)]; exact u7) (by rw [ab_upd_off _ _ (by decide)]; exact u43)
        exact ⟨fun e => go true (decide_eq_true ((dn_e1 v4).mp e)), fun e => go false (decide_eq_false (fun e2 => e ((dn_e1 v4).mpr e2)))⟩
  refine s_X3_readCell_0 (s_X5_arityOf_0 ⟨fun q => absurd q (nI_pos (by omega)), fun _ => ⟨fun _ => ⟨in8 hs, _, rfl, ?_⟩, fun q => absurd ((nI_ltI (b := 8) (by omega) (by decide)).mpr hs) q⟩⟩)
  rw [nI_clamp (by omega), ha]
  have l1 : nI w < 1 ↔ w < 1 := nI_ltI (b := 1) (by omega) (by decide)
  have l2 : nI w < 2 ↔ w < 2 := nI_ltI (b := 2) (by omega) (by decide)
  rcases (by omega : w = 0 ∨ w = 1 ∨ w = 2) with rfl | rfl | rfl
  · exact ⟨fun _ => ⟨fun _ => fin 0 0 σ (by omega) (by omega) (by unfold cel; simp) hS gL.rf, fun q => absurd (by decide) q⟩, fun q => absurd (by decide) q⟩
  · rcases S with _ | ⟨x, S⟩
    · simp at hl
    · refine ⟨fun q => absurd q (by decide), fun _ => po_f hS (fun τ ht gt => ⟨_, rfl, fun _ => fin x 0 τ (h4 x (by simp)) (by omega) (by unfold cel; simp) ht gt, fun q => absurd (by decide) q⟩)⟩
  · rcases S with _ | ⟨x, _ | ⟨y, S⟩⟩
    · simp at hl
    · simp at hl
    · refine ⟨fun q => absurd q (by decide), fun _ => po_f hS (fun τ ht gt => ⟨_, rfl, fun q => absurd q (by decide), fun _ => po_f ht (fun υ hu gu => ⟨_, rfl, fin x y υ (h4 x (by simp)) (h4 y (by simp)) (by unfold cel; simp) hu (gt.tr gu)⟩)⟩)⟩
end LC

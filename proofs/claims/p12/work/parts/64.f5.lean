/-- what isSomeBroken writes -/
def fK (σ τ : ab_M) : Prop := ∀ z, (z < 42 ∨ z = 45 ∨ 48 ≤ z) → τ z = σ z
theorem fK.rf {σ : ab_M} : fK σ σ := fun _ _ => rfl
theorem fK.tr {σ τ υ : ab_M} (h1 : fK σ τ) (h2 : fK τ υ) : fK σ υ := fun z hz => (h2 z hz).trans (h1 z hz)
theorem fK.up {σ τ : ab_M} (h : fK σ τ) {q k : Nat} {v : Int32} (hq : q = 46 ∨ q = 47) : fK σ (ab_upd τ q k v) := fun z hz => by
  rw [ab_upd_off _ _ (by omega)]
  exact h z hz
theorem fK.of {σ τ : ab_M} (h : fL σ τ) : fK σ τ := fun z hz => h z (by omega)
/-- the clauses that there are -/
def CI (m : Nat) (σ : ab_M) : Prop := m ≤ 8 ∧ σ 5 1 = nI m ∧ ∀ i, i < m → ∃ L, L ≤ 60 ∧ σ (7 + 3 * i) 2 = nI L
theorem CI_of {m : Nat} {σ τ : ab_M} (h : CI m σ) (h1 : ∀ z, z < 37 → τ z = σ z) : CI m τ := by
  obtain ⟨a, b, c⟩ := h
  refine ⟨a, by rw [h1 5 (by omega)]; exact b, fun i hi => ?_⟩
  rw [h1 (7 + 3 * i) (by omega)]
  exact c i hi
theorem nI4 (a b : Nat) : (nI a * 4) + nI b = nI (a * 4 + b) := by
  have e : nI a * 4 = nI (a * 4) := pk_mul a 4
  rw [e, nI_add]
section SB
variable {σ : ab_M} {Q : Option ab_V → ab_M → Prop}
theorem at_s {j : Nat} (hj : j ≤ 8) (k : Q (some (.inr (.inr (7 + 3 * j)))) σ) : evm mX2_at [.inr (.inr 5), .inl (nI j)] σ Q := by
  refine s_X2_at_0 ⟨fun h => absurd h (nI_pos (by omega)), fun _ => ⟨fun _ => ⟨inN (by omega) (by decide), ?_⟩, fun h => absurd (nI_le (b := 8) hj (by decide)) h⟩⟩
  rw [nI_clamp (by omega)]
  exact k
theorem nl_s {j : Nat} {x : Int32} (hj : j < 512) (k : ∀ r, Q (some (.inl r)) σ) : evm mX4_needsLook [.inr (.inr 45), .inl (nI j), .inl x] σ Q := s_X4_needsLook_0 ⟨inN hj (by decide), fun _ => k _, fun _ => ⟨inN hj (by decide), fun _ => k _, fun _ => k _⟩⟩
set_option maxHeartbeats 1000000 in
theorem sb_s {n m : Nat} {x : Int32} (hT : TI n σ) (hC : CI m σ) (k : ∀ r τ, (r = 0 ∨ r = 1) → fK σ τ → Q (some (.inl r)) τ) : evm mX4_isSomeBroken [.inr (.inr 45), .inl x] σ Q := by
  obtain ⟨hm, h51, hcl⟩ := hC
  obtain ⟨hn, h374, -⟩ := hT
  have rows : ∀ (d i : Nat) (τ : ab_M) (o4 o5 o6 o7 o8 o9 o10 o11 : Option ab_V), i + d = m → fK σ τ → ev mX4_isSomeBroken 10 [some (.inr (.inr 45)), some (.inl x), some (.inl (nI n)), some (.inl (nI i)), o4, o5, o6, o7, o8, o9, o10, o11] [] τ Q := by
    intro d
    induction d with
    | zero =>
      intro i τ o4 o5 o6 o7 o8 o9 o10 o11 hi f1
      refine s_X4_isSomeBroken_10 (s_X2_count_0 ⟨_, rfl, ?_⟩)
      rw [f1 5 (by omega), h51]
      exact ⟨fun _ => k _ τ (Or.inl rfl) f1, fun h => absurd (nI_le (by omega) (by omega)) h⟩
    | succ d ih =>
      intro i τ o4 o5 o6 o7 o8 o9 o10 o11 hi f1
      have hc : Cl (7 + 3 * i) := ⟨i, by omega, rfl⟩
      obtain ⟨c0, c1, c2⟩ := Cl_sh hc
      obtain ⟨L, hL, eL⟩ := hcl i (by omega)
      have zs : ∀ r : Int32, (r = 1 ∨ r = nI n) → ∃ X : Nat, X ≤ 4 ∧ r = nI X := by
        intro r hr
        rcases hr with rfl | rfl
        · exact ⟨1, by omega, rfl⟩
        · exact ⟨n, hn, rfl⟩
      refine s_X4_isSomeBroken_10 (s_X2_count_0 ⟨_, rfl, ?_⟩)
      rw [f1 5 (by omega), h51]
      refine ⟨fun h => absurd h (nI_ge (by omega) (by omega)), fun _ => ?_⟩
      refine at_s (by omega) ⟨_, rfl, ⟨_, c0⟩, ?_⟩
      refine ch_s (v := 0) hc (by decide) (fun r6 e6 => ⟨_, rfl, ⟨_, c0⟩, ?_⟩)
      refine ch_s (v := 1) hc (by decide) (fun r8 e8 => ⟨_, rfl, ⟨_, c0⟩, ?_⟩)
      refine ch_s (v := 2) hc (by decide) (fun r10 e10 => ⟨_, rfl, ?_⟩)
      obtain ⟨X, hX, rfl⟩ := zs r6 e6
      obtain ⟨Y, hY, rfl⟩ := zs r8 e8
      obtain ⟨Z, hZ, rfl⟩ := zs r10 e10
      have xl : ∀ (dx a : Nat) (υ : ab_M) (o9 o10 o11 : Option ab_V), a + dx = X → fK σ υ → ev mX4_isSomeBroken 61 [some (.inr (.inr 45)), some (.inl x), some (.inl (nI n)), some (.inl (nI i)), some (.inr (.inr (7 + 3 * i))), some (.inl (nI X)), some (.inl (nI Y)), some (.inl (nI Z)), some (.inl (nI a)), o9, o10, o11] [] υ Q := by
        intro dx
        induction dx with
        | zero =>
          intro a υ o9 o10 o11 ha u1
          refine s_X4_isSomeBroken_61 ⟨fun _ => ?_, fun h => absurd (nI_le (by omega) (by omega)) h⟩
          rw [nI_1]
          exact ih (i + 1) υ _ _ _ _ _ _ _ _ (by omega) u1
        | succ dx ihx =>
          intro a υ o9 o10 o11 ha u1
          refine s_X4_isSomeBroken_61 ⟨fun h => absurd h (nI_ge (by omega) (by omega)), fun _ => ?_⟩
          have yl : ∀ (dy b : Nat) (υ : ab_M) (o10 o11 : Option ab_V), b + dy = Y → fK σ υ → ev mX4_isSomeBroken 71 [some (.inr (.inr 45)), some (.inl x), some (.inl (nI n)), some (.inl (nI i)), some (.inr (.inr (7 + 3 * i))), some (.inl (nI X)), some (.inl (nI Y)), some (.inl (nI Z)), some (.inl (nI a)), some (.inl (nI b)), o10, o11] [] υ Q := by
            intro dy
            induction dy with
            | zero =>
              intro b υ o10 o11 hb u1
              refine s_X4_isSomeBroken_71 ⟨fun _ => ?_, fun h => absurd (nI_le (by omega) (by omega)) h⟩
              rw [nI_1]
              exact ihx (a + 1) υ _ _ _ (by omega) u1
            | succ dy ihy =>
              intro b υ o10 o11 hb u1
              refine s_X4_isSomeBroken_71 ⟨fun h => absurd h (nI_ge (by omega) (by omega)), fun _ => ?_⟩
              have zl : ∀ (dz e : Nat) (υ : ab_M) (o11 : Option ab_V), e + dz = Z → fK σ υ → ev mX4_isSomeBroken 81 [some (.inr (.inr 45)), some (.inl x), some (.inl (nI n)), some (.inl (nI i)), some (.inr (.inr (7 + 3 * i))), some (.inl (nI X)), some (.inl (nI Y)), some (.inl (nI Z)), some (.inl (nI a)), some (.inl (nI b)), some (.inl (nI e)), o11] [] υ Q := by
                intro dz
                induction dz with
                | zero =>
                  intro e υ o11 he u1
                  refine s_X4_isSomeBroken_81 ⟨fun _ => ?_, fun h => absurd (nI_le (by omega) (by omega)) h⟩
                  rw [nI_1]
                  exact ihy (b + 1) υ _ _ (by omega) u1
                | succ dz ihz =>
                  intro e υ o11 he u1
                  have hj : ((i * 4 + a) * 4 + b) * 4 + e < 512 := by omega
                  refine s_X4_isSomeBroken_81 ⟨fun h => absurd h (nI_ge (by omega) (by omega)), fun _ => ?_⟩
                  refine s_X4_instanceOf_0 ⟨_, rfl, ?_⟩
                  rw [nI4, nI4, nI4, nI_1]
                  refine nl_s hj (fun r4 => ⟨_, rfl, fun _ => ihz (e + 1) υ _ (by omega) u1, fun _ => ?_⟩)
                  have eq : υ (7 + 3 * i) 2 = nI L := by rw [u1 _ (by omega)]; exact eL
                  refine ib_s hc hL eq (fun r6 ω w1 => ⟨_, rfl, fun _ => ?_, fun _ => k _ ω (Or.inr rfl) (u1.tr (fK.of w1))⟩)
                  refine s_X3_greatestRead_0 ⟨_, rfl, inN hj (by decide), ?_⟩
                  refine s_X3_missing_0 ⟨_, rfl, inN hj (by decide), ?_⟩
                  exact ihz (e + 1) _ _ (by omega) (((u1.tr (fK.of w1)).up (Or.inl rfl)).up (Or.inr rfl))
              exact zl Z 0 υ _ (by omega) u1
          exact yl Y 0 υ _ _ (by omega) u1
      exact xl X 0 τ _ _ _ (by omega) f1
  refine s_X4_isSomeBroken_0 (s_X6_sizeLaid_0 ⟨_, rfl, ?_⟩)
  rw [h374]
  exact rows m 0 σ _ _ _ _ _ _ _ _ (by omega) fK.rf
end SB
/-- what fill writes -/
def fF (σ τ : ab_M) : Prop := ∀ z, (z < 38 ∨ z = 39 ∨ z = 40 ∨ z = 41 ∨ 49 ≤ z) → τ z = σ z
theorem fF.rf {σ : ab_M} : fF σ σ := fun _ _ => rfl
theorem fF.tr {σ τ υ : ab_M} (h1 : fF σ τ) (h2 : fF τ υ) : fF σ υ := fun z hz => (h2 z hz).trans (h1 z hz)
theorem fF.up {σ τ : ab_M} (h : fF σ τ) {q k : Nat} {v : Int32} (hq : q = 38 ∨ (42 ≤ q ∧ q < 49)) : fF σ (ab_upd τ q k v) := fun z hz => by
  rw [ab_upd_off _ _ (by omega)]
  exact h z hz
theorem fF.of {σ τ : ab_M} (h : fK σ τ) : fF σ τ := fun z hz => h z (by omega)
section FI
variable {σ : ab_M} {Q : Option ab_V → ab_M → Prop}
/-- the tables laid, with their count -/
def TC (n c : Nat) (σ : ab_M) : Prop := n ≤ 4 ∧ σ 37 4 = nI n ∧ c ≤ 128 ∧ σ 37 5 = nI c ∧ ∀ r, r < c → ∃ o, o < 128 ∧ σ 39 r = nI o
theorem TC.ti {n c : Nat} (h : TC n c σ) : TI n σ := ⟨h.1, h.2.1, c, h.2.2.1, h.2.2.2.1, h.2.2.2.2⟩
theorem TC.mv {n c : Nat} {τ : ab_M} (h : TC n c σ) (f : fF σ τ) : TC n c τ := by
  unfold TC
  rw [f 37 (by omega), f 39 (by omega)]
  exact h
theorem ir_s {n c r : Nat} (h : TC n c σ) (hr : r < c) (k : Q (some (.inl 1)) σ) : evm mX6_isRank [.inr (.inr 37), .inl (nI r)] σ Q := by
  have hc := h.2.2.1
  refine s_X6_isRank_0 ⟨fun h2 => absurd h2 (nI_pos (by omega)), fun _ => ⟨fun h2 => ?_, fun _ => k⟩⟩
  rw [h.2.2.2.1] at h2
  exact absurd h2 (nI_ge hr (by omega))
theorem vt_s {n c r : Nat} (h : TC n c σ) (hr : r < c) (k : ∀ v, Q (some (.inl v)) σ) : evm mX6_valueAt [.inr (.inr 37), .inl (nI r)] σ Q := by
  have hc := h.2.2.1
  obtain ⟨o, ho, eo⟩ := h.2.2.2.2 r hr
  refine s_X6_valueAt_0 (ir_s h hr ⟨_, rfl, fun h2 => absurd h2 (by decide), fun _ => ⟨inN (by omega) (by decide), ?_, k _⟩⟩)
  rw [nI_clamp (by omega), eo]
  exact inN ho (by decide)
theorem pt_s {n c r : Nat} {x : Int32} (h : TC n c σ) (hr : r < c) (k : ∀ τ, fF σ τ → (∀ z, z ≠ 38 → τ z = σ z) → Q none τ) : evm mX6_putAt [.inr (.inr 37), .inl (nI r), .inl x] σ Q := by
  have hc := h.2.2.1
  obtain ⟨o, ho, eo⟩ := h.2.2.2.2 r hr
  refine s_X6_putAt_0 (ir_s h hr ⟨_, rfl, fun h2 => absurd h2 (by decide), fun _ => ⟨inN (by omega) (by decide), ?_, k _ (fF.rf.up (Or.inl rfl)) (fun z hz => ab_upd_off _ _ hz)⟩⟩)
  rw [nI_clamp (by omega), eo]
  exact inN ho (by decide)
theorem iF_s {x : Int32} (k : ∀ r, Q (some (.inl r)) σ) : evm mX7_isFunction [.inl x] σ Q := s_X7_isFunction_0 ⟨fun _ => k _, fun _ => ⟨fun _ => k _, fun _ => k _⟩⟩
theorem fa_s {n c r : Nat} (h : TC n c σ) (hr : r < c) (k : ∀ v, Q (some (.inl v)) σ) : evm mX6_isFunctionAt [.inr (.inr 37), .inl (nI r)] σ Q := by
  have hc := h.2.2.1
  exact s_X6_isFunctionAt_0 (ir_s h hr ⟨_, rfl, fun h2 => absurd h2 (by decide), fun _ => ⟨inN (by omega) (by decide), iF_s (fun r4 => ⟨_, rfl, fun _ => k _, fun _ => k _⟩)⟩⟩)
theorem li_s {n c r : Nat} (h : TC n c σ) (hr : r < c) (k : ∀ v, Q (some (.inl v)) σ) : evm mX4_limitAt [.inr (.inr 45), .inl (nI r)] σ Q := by
  have hc := h.2.2.1
  refine s_X4_limitAt_0 (fa_s h hr (fun r2 => ⟨_, rfl, fun _ => k _, fun _ => ?_⟩))
  refine s_X6_greatestArgumentAt_0 (ir_s h hr ⟨_, rfl, fun h2 => absurd h2 (by decide), fun _ => ⟨inN (by omega) (by decide), ⟨_, rfl, inN (by omega) (by decide), ?_⟩⟩⟩)
  exact s_X6_sizeLaid_0 ⟨_, rfl, k _⟩
theorem pp_s {n c r : Nat} {x : Int32} (h : TC n c σ) (hr : r < c) (k : ∀ τ, fF σ τ → Q none τ) : evm mX4_put [.inr (.inr 45), .inl (nI r), .inl x] σ Q := by
  have hc := h.2.2.1
  refine s_X4_put_0 (pt_s h hr (fun τ f1 _ => ⟨rfl, inN (by omega) (by decide), ?_⟩))
  refine fa_s (h.mv f1) hr (fun r3 => ⟨_, rfl, fun _ => ⟨?_, k _ (f1.up (by omega))⟩, fun _ => ⟨?_, k _ (f1.up (by omega))⟩⟩)
  · rw [nI_1]; exact inN (by omega) (by decide)
  · rw [nI_1]; exact inN (by omega) (by decide)
theorem fi_s {n c m r : Nat} {x1 : Int32} (h : TC n c σ) (hC : CI m σ) (hr : r ≤ c + 1) (hx : x1 = dn r) (k : ∀ v τ, fF σ τ → Q (some (.inl v)) τ) : evm mX4_fill [.inr (.inr 45), .inl x1] σ Q := by
  have hc := h.2.2.1
  have loop : ∀ (d a r : Nat) (x2 : Int32) (τ : ab_M) (o4 : Option ab_V), a + d = 1000000 → r ≤ c + 1 → x2 = dn r → fF σ τ → ev mX4_fill 4 [some (.inr (.inr 45)), some (.inl x1), some (.inl x2), some (.inl (nI a)), o4] [] τ Q := by
    intro d
    induction d with
    | zero =>
      intro a r x2 τ o4 ha hr hx f1
      exact s_X4_fill_4 ⟨fun _ => k _ τ f1, fun h2 => absurd (nI_le (a := 1000000) (by omega) (by omega)) h2⟩
    | succ d ih =>
      intro a r x2 τ o4 ha hr hx f1
      have hT := h.mv f1
      refine s_X4_fill_4 ⟨fun h2 => absurd h2 (nI_ge (b := 1000000) (by omega) (by decide)), fun _ => ⟨fun h2 => ?_, fun _ => k _ τ f1⟩⟩
      rw [nI_1]
      cases r with
      | zero =>
        rw [hx] at h2
        exact absurd h2 (by decide)
      | succ r =>
        rw [dn_s] at hx
        subst hx
        refine s_X6_count_0 ⟨_, rfl, fun h3 => ?_, fun _ => k _ τ f1⟩
        have hrc : r < c := by
          rw [hT.2.2.2.1] at h3
          exact (nI_ltI (by omega) (by omega)).mp h3
        refine vt_s hT hrc (fun r4 => ⟨_, rfl, li_s hT hrc (fun r6 => ⟨_, rfl, fun _ => ⟨fun _ => ?_, fun _ => k _ τ f1⟩, fun _ => ?_⟩)⟩)
        · have f2 : fF σ (ab_upd τ 45 6 (τ 45 6 + 1)) := f1.up (by omega)
          refine pp_s (h.mv f2) hrc (fun υ u1 => ⟨rfl, ?_⟩)
          have f3 := f2.tr u1
          refine sb_s (h.mv f3).ti (CI_of hC (fun z hz => f3 z (by omega))) (fun r9 ω _ w1 => ⟨_, rfl, fun _ => ?_, fun _ => ?_⟩)
          · rw [nI_1]
            exact ih (a + 1) (r + 2) _ ω _ (by omega) (by omega) (dn_s (r + 1)).symm (f3.tr (fF.of w1))
          · exact ih (a + 1) (r + 1) _ ω _ (by omega) (by omega) (dn_s r).symm (f3.tr (fF.of w1))
        · refine pt_s hT hrc (fun υ u1 _ => ⟨rfl, ?_⟩)
          exact ih (a + 1) r _ υ _ (by omega) (by omega) (dn_m r) (f1.tr u1)
  exact s_X4_fill_0 (loop 1000000 0 r x1 σ _ (by omega) hr hx fF.rf)
end FI

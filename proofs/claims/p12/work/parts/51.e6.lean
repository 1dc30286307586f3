/-! type: both sides -/
theorem nI_char {b : Nat} (h : b < 65536) : vp_nar .char (nI b) = nI b := by
  have h1 := (pk_charN h).1
  unfold vp_nar
  rw [h1]
theorem ty_byte {σ : ab_M} {Q : Option ab_V → ab_M → Prop} (w : Int64) {j : Nat} (hj : j < 8) (k : Q (some (.inl (nI (tb w j)))) σ) : evm mX7_byteAt [.inr (.inl w), .inl (nI j)] σ Q := by
  refine s_X7_byteAt_0 ?_
  rw [tb_c w hj]
  refine ⟨?_, k⟩
  have h := tb_lt w j
  exact decide_eq_true (nI_char (by omega))
/-- the first m bytes are visible -/
def vis (w : Int64) (m : Nat) : Bool := (List.range m).all (fun j => decide (33 ≤ tb w j) && decide (tb w j ≤ 126))
theorem vis_t {w : Int64} {m : Nat} (h : ∀ j, j < m → 33 ≤ tb w j ∧ tb w j ≤ 126) : vis w m = true := by
  apply List.all_eq_true.mpr
  intro j hj
  have := h j (List.mem_range.mp hj)
  simp [this]
theorem vis_f {w : Int64} {m j : Nat} (hj : j < m) (h : ¬ (33 ≤ tb w j ∧ tb w j ≤ 126)) : vis w m = false := by
  cases hv : vis w m with
  | false => rfl
  | true =>
    have h1 := List.all_eq_true.mp hv j (List.mem_range.mpr hj)
    rw [Bool.and_eq_true] at h1
    exact absurd ⟨of_decide_eq_true h1.1, of_decide_eq_true h1.2⟩ h
theorem ty_av {σ : ab_M} {Q : Option ab_V → ab_M → Prop} (w : Int64) {m : Nat} (hm : m ≤ 8) (k : Q (some (.inl (bif vis w m then 1 else 0))) σ) : evm mX7_areAllVisible [.inr (.inl w), .inl (nI m)] σ Q := by
  have loop : ∀ (d a : Nat) (o4 : Option ab_V), a + d = m → (∀ j, j < a → 33 ≤ tb w j ∧ tb w j ≤ 126) → ev mX7_areAllVisible 2 [some (.inr (.inl w)), none, some (.inl (nI m)), some (.inl (nI a)), o4] [] σ Q := by
    intro d
    induction d with
    | zero =>
      intro a o4 ha hv
      have hv' := vis_t (m := m) (fun j hj => hv j (by omega))
      rw [hv'] at k
      refine s_X7_areAllVisible_2 ⟨fun _ => k, fun h => absurd (nI_le (by omega) (by omega)) h⟩
    | succ d ih =>
      intro a o4 ha hv
      refine s_X7_areAllVisible_2 ⟨fun h => absurd h (nI_ge (by omega) (by omega)), fun _ => ?_⟩
      refine ty_byte w (by omega) ⟨_, rfl, ?_⟩
      have hb := tb_lt w a
      refine ⟨fun h => ?_, fun h => ⟨fun h2 => ?_, fun h2 => ?_⟩⟩
      · have hlt : tb w a < 33 := (nI_ltI (by omega) (by omega)).mp h
        rw [vis_f (m := m) (j := a) (by omega) (by omega)] at k
        exact k
      · have h3 : ¬ tb w a < 33 := fun q => h ((nI_ltI (a := tb w a) (b := 33) (by omega) (by omega)).mpr q)
        have h4 : tb w a ≤ 126 := (nI_leI (by omega) (by omega)).mp h2
        rw [nI_1]
        exact ih (a + 1) _ (by omega) (lt_s hv ⟨by omega, h4⟩)
      · have h4 : ¬ tb w a ≤ 126 := fun q => h2 ((nI_leI (a := tb w a) (b := 126) (by omega) (by omega)).mpr q)
        rw [vis_f (m := m) (j := a) (by omega) (by omega)] at k
        exact k
  exact s_X7_areAllVisible_0 (loop m 0 none (by omega) (fun j hj => by omega))
/-- one less: a counter that goes down to -1 -/
def dn (j : Nat) : Int32 := nI j - 1
theorem dn_s (j : Nat) : dn (j + 1) = nI j := nI_pred j
theorem dn_0 : dn 0 < 0 := by decide
theorem dn_m (j : Nat) : nI j + (-1) = dn j := by
  unfold dn
  rw [Int32.sub_eq_add_neg]
/-- the class's buffer, with j bytes more -/
def ap_c (w : Int64) : Nat → ab_M → ab_M
  | 0, σ => σ
  | j + 1, σ => ap_c w j (ab_upd (ab_upd σ 4 (σ 3 1).toNatClampNeg (nI (tb w j))) 3 1 (σ 3 1 + 1))
theorem ap_c_ok (w : Int64) : ∀ (j a : Nat) (σ : ab_M), σ 3 1 = nI a → a + j ≤ 60 → (ap_c w j σ) 3 1 = nI (a + j) ∧ (∀ q, q ≠ 3 → q ≠ 4 → (ap_c w j σ) q = σ q) ∧ (∀ t, (ap_c w j σ) 4 t = if a ≤ t ∧ t < a + j then nI (tb w (j - 1 - (t - a))) else σ 4 t)
  | 0, a, σ, h, _ => ⟨h, fun _ _ _ => rfl, fun t => by rw [if_neg (by omega)]; rfl⟩
  | j + 1, a, σ, h, hj => by
    have hc : (σ 3 1).toNatClampNeg = a := by rw [h]; exact nI_clamp (by omega)
    have h1 : (ab_upd (ab_upd σ 4 (σ 3 1).toNatClampNeg (nI (tb w j))) 3 1 (σ 3 1 + 1)) 3 1 = nI (a + 1) := by
      rw [ab_upd_same, h, nI_1]
    obtain ⟨g1, g2, g3⟩ := ap_c_ok w j (a + 1) _ h1 (by omega)
    refine ⟨?_, fun q h3 h4 => ?_, fun t => ?_⟩
    · show (ap_c w j _) 3 1 = _
      rw [g1]
      congr 1
      omega
    · show (ap_c w j _) q = _
      rw [g2 q h3 h4, ab_upd_off _ _ h3, ab_upd_off _ _ h4]
    · show (ap_c w j _) 4 t = _
      rw [g3 t, ab_upd_off (ab_upd σ 4 _ _) (q := 3) _ (by decide), ab_upd_eq, hc]
      by_cases e1 : a + 1 ≤ t ∧ t < a + 1 + j
      · rw [if_pos e1, if_pos (by omega)]
        congr 2
        omega
      · rw [if_neg e1]
        by_cases e2 : t = a
        · subst e2
          rw [if_pos (by simp), if_pos (by omega)]
          congr 2
          omega
        · rw [if_neg (by simp [e2]), if_neg (by omega)]
theorem ty_append {σ : ab_M} {Q : Option ab_V → ab_M → Prop} {a b : Nat} (h : σ 3 1 = nI a) (ha : a < 60) (hb : b < 65536) (k : Q none (ab_upd (ab_upd σ 4 (σ 3 1).toNatClampNeg (nI b)) 3 1 (σ 3 1 + 1))) : evm mX0_append [.inr (.inr 3), .inl (nI b)] σ Q := by
  refine s_X0_append_0 ⟨fun h2 => ?_, fun _ => ⟨?_, ?_⟩⟩
  · rw [h] at h2
    exact absurd h2 (nI_ge (a := a) (b := 60) ha (by decide))
  · rw [h]
    exact ab_in_of (by rw [nI_toInt (by omega)]; omega) (by rw [nI_toInt (by omega)]; omega)
  · rw [nI_char hb, ab_upd_off σ (q := 4) (a := 3) _ (by decide)]
    exact k
/-- the answer of type, with a characters typed -/
def tyR (w : Int64) (n : Int32) (a : Nat) : Int32 := if n < 1 then -1 else if 8 < n then -1 else bif vis w n.toNatClampNeg then (if a + n.toNatClampNeg ≤ 60 then nI (a + n.toNatClampNeg) else -3) else -1
def tyM (w : Int64) (n : Int32) (a : Nat) (ap : Nat → ab_M → ab_M) (σ : ab_M) : ab_M := if n < 1 then σ else if 8 < n then σ else bif vis w n.toNatClampNeg then (if a + n.toNatClampNeg ≤ 60 then ap n.toNatClampNeg σ else σ) else σ
theorem ty_n {n : Int32} (h1 : ¬ n < 1) (h2 : ¬ 8 < n) : ∃ m : Nat, 1 ≤ m ∧ m ≤ 8 ∧ n = nI m ∧ n.toNatClampNeg = m := by
  rw [Int32.lt_iff_toInt_lt] at h1 h2
  rw [li_1] at h1
  rw [li_8] at h2
  obtain ⟨j, hj, rfl⟩ := nI_of (x := n) (by rw [Int32.lt_iff_toInt_lt, li_0]; omega)
  rw [nI_toInt hj] at h1 h2
  exact ⟨j, by omega, by omega, rfl, nI_clamp hj⟩
theorem ty_class {σ : ab_M} {Q : Option ab_V → ab_M → Prop} (w : Int64) (n : Int32) {a : Nat} (h : σ 3 1 = nI a) (ha : a ≤ 60) (k : Q (some (.inl (tyR w n a))) (tyM w n a (ap_c w) σ)) : evm mX7_type [.inr (.inr 0), .inr (.inl w), .inl n] σ Q := by
  refine s_X7_type_0 ⟨fun h1 => ?_, fun h1 => ⟨fun h2 => ?_, fun h2 => ?_⟩⟩
  · simp only [tyR, tyM, if_pos h1] at k
    exact k
  · simp only [tyR, tyM, if_neg h1, if_pos h2] at k
    exact k
  · simp only [tyR, tyM, if_neg h1, if_neg h2] at k
    obtain ⟨m, m1, m8, rfl, hm⟩ := ty_n h1 h2
    rw [hm] at k
    refine ty_av w m8 ⟨_, rfl, ?_⟩
    cases hv : vis w m with
    | false =>
      rw [hv] at k
      exact ⟨fun _ => k, fun h3 => absurd rfl h3⟩
    | true =>
      rw [hv] at k
      simp only [cond_true] at k
      refine ⟨fun h3 => absurd h3 (by decide), fun _ => ?_⟩
      refine s_X0_hasRoomFor_0 ⟨fun h4 => ?_, fun h4 => ?_⟩
      · rw [h, nI_add] at h4
        have h5 : 60 < a + m := (nI_ltI (a := 60) (by decide) (by omega)).mp h4
        simp only [if_neg (show ¬ a + m ≤ 60 by omega)] at k
        exact ⟨_, rfl, fun _ => k, fun h6 => absurd rfl h6⟩
      · rw [h, nI_add] at h4
        have h5 : ¬ 60 < a + m := fun q => h4 ((nI_ltI (a := 60) (by decide) (by omega)).mpr q)
        simp only [if_pos (show a + m ≤ 60 by omega)] at k
        refine ⟨_, rfl, fun h6 => absurd h6 (by decide), fun _ => ?_⟩
        have loop : ∀ (j a : Nat) (σ : ab_M), σ 3 1 = nI a → a + j ≤ 60 → j ≤ 8 → Q (some (.inl (nI (a + j)))) (ap_c w j σ) → ev mX7_type 40 [some (.inr (.inr 0)), some (.inr (.inl w)), none, some (.inl (nI m)), some (.inl (dn j))] [] σ Q := by
          intro j
          induction j with
          | zero =>
            intro a σ h _ _ k
            refine s_X7_type_40 ⟨fun _ => ?_, fun h7 => absurd dn_0 h7⟩
            refine s_X0_length_0 ⟨_, rfl, ?_⟩
            rw [h]
            exact k
          | succ j ih =>
            intro a σ h h8 h9 k
            rw [dn_s]
            refine s_X7_type_40 ⟨fun h7 => absurd h7 (nI_pos (by omega)), fun _ => ?_⟩
            refine ty_byte w (by omega) ⟨_, rfl, ?_⟩
            have hb := tb_lt w j
            refine ty_append h (by omega) (by omega) ⟨rfl, ?_⟩
            rw [dn_m]
            refine ih (a + 1) _ ?_ (by omega) (by omega) ?_
            · rw [ab_upd_same, h, nI_1]
            · rw [show a + 1 + j = a + (j + 1) by omega]
              exact k
        exact loop m a σ h (by omega) m8 k
/-- the reference's buffer, with j bytes more -/
def ap_m (w : Int64) : Nat → ab_M → ab_M
  | 0, σ => σ
  | j + 1, σ => ap_m w j (ab_upd (ab_upd σ 52 (σ 50 2).toNatClampNeg (nI (tb w j))) 50 2 (σ 50 2 + 1))
theorem ap_m_ok (w : Int64) : ∀ (j a : Nat) (σ : ab_M), σ 50 2 = nI a → a + j ≤ 60 → (ap_m w j σ) 50 2 = nI (a + j) ∧ (∀ q, q ≠ 50 → q ≠ 52 → (ap_m w j σ) q = σ q) ∧ (∀ t, (ap_m w j σ) 52 t = if a ≤ t ∧ t < a + j then nI (tb w (j - 1 - (t - a))) else σ 52 t) ∧ (∀ t, t ≠ 2 → (ap_m w j σ) 50 t = σ 50 t)
  | 0, a, σ, h, _ => ⟨h, fun _ _ _ => rfl, fun t => by rw [if_neg (by omega)]; rfl, fun _ _ => rfl⟩
  | j + 1, a, σ, h, hj => by
    have hc : (σ 50 2).toNatClampNeg = a := by rw [h]; exact nI_clamp (by omega)
    have h1 : (ab_upd (ab_upd σ 52 (σ 50 2).toNatClampNeg (nI (tb w j))) 50 2 (σ 50 2 + 1)) 50 2 = nI (a + 1) := by
      rw [ab_upd_same, h, nI_1]
    obtain ⟨g1, g2, g3, g4⟩ := ap_m_ok w j (a + 1) _ h1 (by omega)
    refine ⟨?_, fun q h3 h4 => ?_, fun t => ?_, fun t ht => ?_⟩
    · show (ap_m w j _) 50 2 = _
      rw [g1]
      congr 1
      omega
    · show (ap_m w j _) q = _
      rw [g2 q h3 h4, ab_upd_off _ _ h3, ab_upd_off _ _ h4]
    · show (ap_m w j _) 52 t = _
      rw [g3 t, ab_upd_off (ab_upd σ 52 _ _) (q := 50) _ (by decide), ab_upd_eq, hc]
      by_cases e1 : a + 1 ≤ t ∧ t < a + 1 + j
      · rw [if_pos e1, if_pos (by omega)]
        congr 2
        omega
      · rw [if_neg e1]
        by_cases e2 : t = a
        · subst e2
          rw [if_pos (by simp), if_pos (by omega)]
          congr 2
          omega
        · rw [if_neg (by simp [e2]), if_neg (by omega)]
    · show (ap_m w j _) 50 t = _
      rw [g4 t ht, ab_upd_eq, if_neg (by simp [ht]), ab_upd_off σ (q := 52) (a := 50) _ (by decide)]
theorem ap_c_50 (w : Int64) (j : Nat) {a : Nat} {σ : ab_M} (h : σ 3 1 = nI a) (hj : a + j ≤ 60) {q : Nat} (hq : 50 ≤ q) : (ap_c w j σ) q = σ q := (ap_c_ok w j a σ h hj).2.1 q (by omega) (by omega)
theorem ty_model {σ : ab_M} {Q : Option ab_V → ab_M → Prop} (w : Int64) (n : Int32) {a : Nat} (h : σ 50 2 = nI a) (ha : a ≤ 60) (k : Q (some (.inl (tyR w n a))) (tyM w n a (ap_m w) σ)) : evm mX8_type [.inr (.inr 50), .inr (.inl w), .inl n] σ Q := by
  have bad : ∀ (i : Int32) (o6 o7 : Option ab_V), Q (some (.inl (-1))) σ → ev mX8_type 21 [some (.inr (.inr 50)), some (.inr (.inl w)), none, some (.inl n), some (.inl 0), some (.inl i), o6, o7] [] σ Q := by
    intro i o6 o7 k
    refine s_X8_type_21 ⟨fun _ => ⟨fun _ => k, fun h3 => absurd rfl h3⟩, fun _ => ⟨fun _ => ⟨fun _ => k, fun h3 => absurd rfl h3⟩, fun h3 => absurd rfl h3⟩⟩
  refine s_X8_type_0 ⟨fun h1 => ?_, fun h1 => ⟨fun h2 => ?_, fun h2 => ?_⟩⟩
  · simp only [tyR, tyM, if_pos h1] at k
    exact bad 0 none none k
  · simp only [tyR, tyM, if_neg h1, if_pos h2] at k
    exact bad 0 none none k
  · simp only [tyR, tyM, if_neg h1, if_neg h2] at k
    obtain ⟨m, m1, m8, rfl, hm⟩ := ty_n h1 h2
    rw [hm] at k
    have loop2 : ∀ (j a : Nat) (σ : ab_M) (i : Int32) (o6 o7 : Option ab_V), σ 50 2 = nI a → a + j ≤ 60 → j ≤ 8 → i = dn j → Q (some (.inl (nI (a + j)))) (ap_m w j σ) → ev mX8_type 102 [some (.inr (.inr 50)), some (.inr (.inl w)), none, some (.inl (nI m)), some (.inl 1), some (.inl i), o6, o7] [] σ Q := by
      intro j
      induction j with
      | zero =>
        intro a σ i o6 o7 h _ _ hi k
        subst hi
        refine s_X8_type_102 ⟨fun _ => ?_, fun h7 => absurd dn_0 h7⟩
        rw [h]
        exact k
      | succ j ih =>
        intro a σ i o6 o7 h h8 h9 hi k
        rw [dn_s] at hi
        subst hi
        refine s_X8_type_102 ⟨fun h7 => absurd h7 (nI_pos (by omega)), fun _ => ⟨?_, ?_⟩⟩
        · rw [h]
          exact ab_in_of (by rw [nI_toInt (by omega)]; omega) (by rw [nI_toInt (by omega)]; omega)
        · rw [tb_ar w (by omega), lN_i, ab_upd_off σ (q := 52) (a := 50) _ (by decide)]
          refine ih (a + 1) _ _ _ _ ?_ (by omega) (by omega) (dn_m j) ?_
          · rw [ab_upd_same, h, nI_1]
          · rw [show a + 1 + j = a + (j + 1) by omega]
            exact k
    have loop1 : ∀ (d b : Nat) (o6 o7 : Option ab_V), b + d = m → (∀ j, j < b → 33 ≤ tb w j ∧ tb w j ≤ 126) → ev mX8_type 21 [some (.inr (.inr 50)), some (.inr (.inl w)), none, some (.inl (nI m)), some (.inl 1), some (.inl (nI b)), o6, o7] [] σ Q := by
      intro d
      induction d with
      | zero =>
        intro b o6 o7 hb hv
        rw [vis_t (m := m) (fun j hj => hv j (by omega))] at k
        simp only [cond_true] at k
        refine s_X8_type_21 ⟨fun _ => ⟨fun h3 => absurd h3 (by decide), fun _ => ⟨fun h4 => ?_, fun h4 => ?_⟩⟩, fun h3 => absurd (nI_le (by omega) (by omega)) h3⟩
        · rw [h, nI_add] at h4
          have h5 : a + m ≤ 60 := (nI_leI (b := 60) (by omega) (by decide)).mp h4
          simp only [if_pos h5] at k
          exact loop2 m a σ _ _ _ h h5 m8 rfl k
        · rw [h, nI_add] at h4
          have h5 : ¬ a + m ≤ 60 := fun q => h4 ((nI_leI (b := 60) (by omega) (by decide)).mpr q)
          simp only [if_neg h5] at k
          exact k
      | succ d ih =>
        intro b o6 o7 hb hv
        refine s_X8_type_21 ⟨fun h3 => absurd h3 (nI_ge (by omega) (by omega)), fun _ => ⟨fun h3 => absurd h3 (by decide), fun _ => ?_⟩⟩
        have hbb := tb_lt w b
        rw [tb_ar w (by omega), nI_1]
        have c1 := (tb_cmp (tb w b) 33 (by omega) (by decide)).1
        have c2 := (tb_cmp (tb w b) 126 (by omega) (by decide)).2
        refine ⟨fun h5 => ?_, fun h5 => ⟨fun h6 => ?_, fun h6 => ?_⟩⟩
        · have := c1.mp h5
          rw [vis_f (m := m) (j := b) (by omega) (by omega)] at k
          exact bad _ _ _ k
        · have := c2.mp h6
          rw [vis_f (m := m) (j := b) (by omega) (by omega)] at k
          exact bad _ _ _ k
        · have q1 : ¬ tb w b < 33 := fun q => h5 (c1.mpr q)
          have q2 : ¬ 126 < tb w b := fun q => h6 (c2.mpr q)
          exact ih (b + 1) _ _ (by omega) (lt_s hv ⟨by omega, by omega⟩)
    exact loop1 m 0 none none (by omega) (fun j hj => by omega)

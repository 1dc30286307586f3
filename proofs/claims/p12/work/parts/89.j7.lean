/-- what check answers, and the numbers told -/
def ckO (ar : Nat → Int32) (b : Nat → Nat) (u : Nat) (o : Option (Nat × Bool × (Nat → Nat))) (v : Option ab_V) (w w' : Nat → Int32) : Prop :=
  (∃ p, aur ar b u 0 (-2) = some p ∧ v = some (.inl (-100 - nI p)) ∧ w' = w)
  ∨ (aur ar b u 0 (-2) = none ∧ o = none ∧ v = some (.inl (-2)) ∧ w' = w)
  ∨ (∃ n fr V, aur ar b u 0 (-2) = none ∧ o = some (n, fr, V) ∧ (∀ k, k < chz b u 0 n * chz b u 1 n * chz b u 2 n → gbk ar V b u n k = false) ∧ v = some (.inl 1) ∧ w' = w)
  ∨ (∃ n fr V k, aur ar b u 0 (-2) = none ∧ o = some (n, fr, V) ∧ k < chz b u 0 n * chz b u 1 n * chz b u 2 n ∧ gbk ar V b u n k = true ∧ (∀ j, j < k → gbk ar V b u n j = false) ∧ v = some (.inl 0) ∧ ∀ i, i < 3 → w' i = nI (nm (kx (chz b u 1 n) (chz b u 2 n) k) (ky (chz b u 1 n) (chz b u 2 n) k) (kz (chz b u 2 n) k) i))
theorem ckO_eq {ar : Nat → Int32} {b : Nat → Nat} {u : Nat} {o : Option (Nat × Bool × (Nat → Nat))} {v v2 : Option ab_V} {w w' w2 w2' : Nat → Int32} (h : ckO ar b u o v w w') (h2 : ckO ar b u o v2 w2 w2') (hw : ∀ i, i < 3 → w i = w2 i) : (∃ r : Int32, v = some (.inl r) ∧ v2 = some (.inl r)) ∧ ∀ i, i < 3 → w' i = w2' i := by
  rcases h with ⟨p, a1, a2, a3⟩ | ⟨a1, a2, a3, a4⟩ | ⟨n, fr, V, a1, a2, a3, a4, a5⟩ | ⟨n, fr, V, k, a1, a2, a3, a4, a5, a6, a7⟩
  · rcases h2 with ⟨p2, b1, b2, b3⟩ | ⟨b1, b2, b3, b4⟩ | ⟨n2, fr2, V2, b1, b2, b3, b4, b5⟩ | ⟨n2, fr2, V2, k2, b1, b2, b3, b4, b5, b6, b7⟩
    · rw [a1] at b1
      cases b1
      exact ⟨⟨_, a2, b2⟩, by rw [a3, b3]; exact hw⟩
    · rw [a1] at b1; cases b1
    · rw [a1] at b1; cases b1
    · rw [a1] at b1; cases b1
  · rcases h2 with ⟨p2, b1, b2, b3⟩ | ⟨b1, b2, b3, b4⟩ | ⟨n2, fr2, V2, b1, b2, b3, b4, b5⟩ | ⟨n2, fr2, V2, k2, b1, b2, b3, b4, b5, b6, b7⟩
    · rw [a1] at b1; cases b1
    · exact ⟨⟨_, a3, b3⟩, by rw [a4, b4]; exact hw⟩
    · rw [a2] at b2; cases b2
    · rw [a2] at b2; cases b2
  · rcases h2 with ⟨p2, b1, b2, b3⟩ | ⟨b1, b2, b3, b4⟩ | ⟨n2, fr2, V2, b1, b2, b3, b4, b5⟩ | ⟨n2, fr2, V2, k2, b1, b2, b3, b4, b5, b6, b7⟩
    · rw [a1] at b1; cases b1
    · rw [a2] at b2; cases b2
    · exact ⟨⟨_, a4, b4⟩, by rw [a5, b5]; exact hw⟩
    · rw [a2] at b2
      cases b2
      rw [a3 k2 b3] at b4
      cases b4
  · rcases h2 with ⟨p2, b1, b2, b3⟩ | ⟨b1, b2, b3, b4⟩ | ⟨n2, fr2, V2, b1, b2, b3, b4, b5⟩ | ⟨n2, fr2, V2, k2, b1, b2, b3, b4, b5, b6, b7⟩
    · rw [a1] at b1; cases b1
    · rw [a2] at b2; cases b2
    · rw [a2] at b2
      cases b2
      rw [b3 k a3] at a4
      cases a4
    · rw [a2] at b2
      cases b2
      have ek : k = k2 := by
        rcases Nat.lt_trichotomy k k2 with g | g | g
        · rw [b5 k g] at a4; cases a4
        · exact g
        · rw [a5 k2 g] at b4; cases b4
      subst ek
      exact ⟨⟨_, a6, b6⟩, fun i hi => by rw [a7 i hi, b7 i hi]⟩
section CK2
variable {σ : ab_M} {Q : Option ab_V → ab_M → Prop} {m u : Nat} {b : Nat → Nat} {Lc : Nat → Nat} {Tc : Nat → Nat → Nat} {o : Option (Nat × Bool × (Nat → Nat))}
theorem c2_check (h : CP m u b Lc Tc o σ) (k : ∀ v τ, ckO (σ 2) b u o v (σ 49) (τ 49) → CP m 0 b Lc Tc o τ → (∀ z, 50 ≤ z → τ z = σ z) → τ 2 = σ 2 → Q v τ) : evm mX7_check [.inr (.inr 0)] σ Q := by
  obtain ⟨hA, hC, hB, hCA, hO⟩ := id h
  have m8 := hC.1
  have u60 := hB.1
  refine s_X7_check_0 (rd_ok (q := 34) ⟨9, by omega, rfl⟩ hB hA (fun τ f hk => ⟨_, rfl, s_X0_empty_0 ⟨rfl, ?_⟩⟩))
  have e1 : ∀ z, z ≠ 3 → (z < 34 ∨ 36 < z) → (ab_upd τ 3 1 0) z = σ z := fun z z3 hz => by rw [ab_upd_off _ _ z3]; exact f z (by omega) (by omega) (by omega)
  have hv : CP m 0 b Lc Tc o (ab_upd τ 3 1 0) := h.mv (e1 2 (by omega) (by omega)) (by rw [e1 5 (by omega) (by omega)]) (fun z h1 h2 => e1 z (by omega) (by omega)) ⟨by omega, ab_upd_same _ _ _ _, fun t ht => by omega⟩ (by rw [e1 0 (by omega) (by omega)]) (by rw [e1 0 (by omega) (by omega)]) (fun z h1 h2 _ => e1 z (by omega) (by omega)) (Or.inl (by rw [e1 45 (by omega) (by omega)]))
  have f50 : ∀ z, 49 ≤ z → (ab_upd τ 3 1 0) z = σ z := fun z hz => e1 z (by omega) (by omega)
  have f2 : (ab_upd τ 3 1 0) 2 = σ 2 := e1 2 (by omega) (by omega)
  have hL : aur (σ 2) b u 0 (-2) = none → Kp 34 b u (ab_upd τ 3 1 0) := fun e => (hk e).mv (fun z h1 h2 => ab_upd_off _ _ (by omega))
  have ho := aur_le (σ 2) b u 0 (-2)
  have bt : ∀ t, t < u → b t < 256 := fun t ht => (hB.2.2 t ht).2
  generalize ab_upd τ 3 1 0 = υ at hv f50 f2 hL ⊢
  have f49 := f50 49 (by omega)
  have f51 : ∀ z, 50 ≤ z → υ z = σ z := fun z hz => f50 z (by omega)
  cases eo : aur (σ 2) b u 0 (-2) with
  | some p =>
    have hp := ho p eo
    refine ⟨fun q => ?_, fun _ => k _ υ (Or.inl ⟨p, eo, rfl, f49⟩) hv f51 f2⟩
    exfalso
    have q2 : (nI p).toInt = (-1 : Int32).toInt := congrArg Int32.toInt q
    rw [nI_toInt (by omega), li_m1] at q2
    omega
  | none =>
    have hK := hL eo
    obtain ⟨v1, v2, v3, v4, v5⟩ := id hv
    cases o with
    | none => exact ⟨fun _ => ⟨fun _ => k _ υ (Or.inr (Or.inl ⟨eo, rfl, rfl, f49⟩)) hv f51 f2, fun q => absurd v5 q⟩, fun q => absurd rfl q⟩
    | some q =>
      obtain ⟨n, fr, V⟩ := q
      obtain ⟨n1, n4, e8, hV, hb, _⟩ := id v5
      refine ⟨fun _ => ⟨fun q => absurd (e8.symm.trans q) (nI_ne0 n1 (by omega)), fun _ => ?_⟩, fun q => absurd rfl q⟩
      refine hs_g (V := V) (n := n) u60 hK bt v1 (by rw [f2]; exact eo) hV e8 n1 n4 (fun ω fw hg => ⟨_, rfl, fun q => absurd q (by decide), fun _ => ?_⟩) (fun ω fw kk h1 h2 h3 h4 => ⟨_, rfl, fun _ => ?_, fun q => absurd rfl q⟩)
      · rw [f2] at hg
        exact k _ ω (Or.inr (Or.inr (Or.inl ⟨n, fr, V, eo, rfl, hg, rfl, by rw [fw 49 (by omega)]; exact f49⟩))) (hv.mv (fw 2 (by omega)) (by rw [fw 5 (by omega)]) (fun z a1 a2 => fw z (by omega)) (v3.mv (fw 3 (by omega)) (fw 4 (by omega))) (by rw [fw 0 (by omega)]) (by rw [fw 0 (by omega)]) (fun z a1 a2 a3 => fw z (by omega)) (Or.inl (by rw [fw 45 (by omega)]))) (fun z hz => by rw [fw z (by omega)]; exact f51 z hz) (by rw [fw 2 (by omega)]; exact f2)
      · rw [f2] at h2 h3
        exact k _ ω (Or.inr (Or.inr (Or.inr ⟨n, fr, V, kk, eo, rfl, h1, h2, h3, rfl, h4⟩))) (hv.mv (fw 2 (by omega) (by omega)) (by rw [fw 5 (by omega) (by omega)]) (fun z a1 a2 => fw z (by omega) (by omega)) (v3.mv (fw 3 (by omega) (by omega)) (fw 4 (by omega) (by omega))) (by rw [fw 0 (by omega) (by omega)]) (by rw [fw 0 (by omega) (by omega)]) (fun z a1 a2 a3 => fw z (by omega) (by omega)) (Or.inl (by rw [fw 45 (by omega) (by omega)]))) (fun z hz => by rw [fw z (by omega) (by omega)]; exact f51 z hz) (by rw [fw 2 (by omega) (by omega)]; exact f2)
theorem m2_check (h : RP m u b Lc Tc o σ) (k : ∀ v τ, ckO (σ 51) b u o v (σ 60) (τ 60) → RP m 0 b Lc Tc o τ → (∀ z, z < 50 → τ z = σ z) → τ 51 = σ 51 → Q v τ) : evm mX8_check [.inr (.inr 50)] σ Q := by
  obtain ⟨hA, hC, hB, hO⟩ := id h
  have m8 := hC.1
  have u60 := hB.1
  have bt := hB.2.2
  have ho := aur_le (σ 51) b u 0 (-2)
  refine s_X8_check_0 (wr_ok hB hA ⟨_, rfl, ?_⟩)
  have g50 : ∀ z, z ≠ 50 → (ab_upd σ 50 2 0) z = σ z := fun z hz => ab_upd_off _ _ hz
  have hv : RP m 0 b Lc Tc o (ab_upd σ 50 2 0) := h.mv (g50 51 (by decide)) (fun i _ => by rw [g50 54 (by decide)]) (fun z _ => by rw [g50 53 (by decide)]) ⟨by omega, ab_upd_same _ _ _ _, fun t ht => by omega⟩ (fun t ht => by rw [ab_upd_eq, if_neg (by omega)]) (fun z h1 _ => g50 z (by omega))
  have f50 : ∀ z, z < 50 → (ab_upd σ 50 2 0) z = σ z := fun z hz => ab_upd_off _ _ (by omega)
  have f2 : (ab_upd σ 50 2 0) 51 = σ 51 := ab_upd_off _ _ (by decide)
  have f60 : (ab_upd σ 50 2 0) 60 = σ 60 := ab_upd_off _ _ (by decide)
  cases eo : aur (σ 51) b u 0 (-2) with
  | some p =>
    have hp := ho p eo
    exact ⟨fun _ => ⟨fun q => absurd q (nI_pos (by omega)), fun _ => k _ _ (Or.inl ⟨p, eo, rfl, f60⟩) hv f50 f2⟩, fun q => absurd (nI_pos' (by omega)) q⟩
  | none =>
    cases o with
    | none => exact ⟨fun q => absurd q (by decide), fun _ => ⟨fun _ => ⟨fun _ => k _ _ (Or.inr (Or.inl ⟨eo, rfl, rfl, f60⟩)) hv f50 f2, fun q => absurd (by decide) q⟩, fun q => absurd hO q⟩⟩
    | some q =>
      obtain ⟨n, fr, V⟩ := q
      obtain ⟨n1, n4, e12, e7, hV, hb, _⟩ := id hO
      refine ⟨fun q => absurd q (by decide), fun _ => ⟨fun q => absurd (e12.symm.trans q) (by decide), fun _ => ?_⟩⟩
      refine kpm_ok (i := 8) hB (by omega) (fun τ a1 a2 a3 a4 a5 a6 a7 => ⟨rfl, ?_⟩)
      have t51 : τ 51 = σ 51 := a1 51 (by decide) (by decide) (by decide)
      have hw : RP m 0 b Lc Tc (some (n, fr, V)) τ := h.mv t51 (fun i hi => a4 i (by omega)) (fun z hz => a7 z (by omega)) ⟨by omega, a3, fun t ht => by omega⟩ (fun t ht => a2 t (by omega)) (fun z h1 h2 => a1 z (by omega) (by omega) (by omega))
      have k8 : RT1 8 u b τ := ⟨u60, a5, fun t ht => ⟨a6 t ht, (bt t ht).2⟩, by rw [t51]; exact eo⟩
      obtain ⟨w1, w2, w3, w4⟩ := id hw
      obtain ⟨_, _, _, y7, yV, _⟩ := id w4
      have tr : ∀ υ, fB τ υ → RP m 0 b Lc Tc (some (n, fr, V)) υ ∧ (∀ z, z < 50 → υ z = σ z) ∧ υ 51 = σ 51 ∧ υ 60 = σ 60 := by
        intro υ fu
        refine ⟨hw.mv (fu.1 51 (by decide) (by decide) (by decide)) (fun i _ => by rw [fu.1 54 (by decide) (by decide) (by decide)]) (fun z _ => by rw [fu.1 53 (by decide) (by decide) (by decide)]) (w3.mv (fu.2 2 (by decide)) (fu.1 52 (by decide) (by decide) (by decide))) (fun t ht => fu.2 t (by omega)) (fun z h1 h2 => fu.1 z (by omega) (by omega) (by omega)), fun z hz => ?_, ?_, ?_⟩
        · rw [fu.1 z (by omega) (by omega) (by omega)]; exact a1 z (by omega) (by omega) (by omega)
        · rw [fu.1 51 (by omega) (by omega) (by omega)]; exact t51
        · rw [fu.1 60 (by omega) (by omega) (by omega)]; exact a1 60 (by omega) (by omega) (by omega)
      refine brk_f (V := V) (T := b) (L := u) (i := 8) (n := n) (by omega) w1 k8 yV hb.2 y7 n1 n4 (fun υ fu hg => ⟨_, rfl, fun _ => ?_, fun q => absurd rfl q⟩) (fun υ fu kk h1 h2 h3 h4 => ⟨_, rfl, fun q => absurd q (by decide), fun _ => ?_⟩)
      · obtain ⟨t1, t2, t3, t4⟩ := tr υ fu
        rw [t51] at hg
        exact k _ υ (Or.inr (Or.inr (Or.inl ⟨n, fr, V, eo, rfl, hg, rfl, t4⟩))) t1 t2 t3
      · obtain ⟨t1, t2, t3, t4⟩ := tr υ fu
        rw [t51] at h2 h3
        have loop : ∀ (d a : Nat) (x1 : Int32) (ω : ab_M), a + d = 3 → (∀ z, z ≠ 60 → ω z = υ z) → (∀ i, i < a → ω 60 i = υ 59 i) → ev mX8_check 54 [some (.inr (.inr 50)), some (.inl x1), some (.inl (nI a))] [] ω Q := by
          intro d
          induction d with
          | zero =>
            intro a x1 ω ha fo hi
            refine s_X8_check_54 ⟨fun _ => k _ ω (Or.inr (Or.inr (Or.inr ⟨n, fr, V, kk, eo, rfl, h1, h2, h3, rfl, fun i hi3 => by rw [hi i (by omega)]; exact h4 i hi3⟩))) ?_ (fun z hz => by rw [fo z (by omega)]; exact t2 z hz) (by rw [fo 51 (by decide)]; exact t3), fun q => absurd (nI_le (a := 3) (by omega) (by omega)) q⟩
            exact t1.mv (fo 51 (by decide)) (fun i _ => by rw [fo 54 (by decide)]) (fun z _ => by rw [fo 53 (by decide)]) (t1.2.2.1.mv (by rw [fo 50 (by decide)]) (fo 52 (by decide))) (fun t ht => by rw [fo 50 (by decide)]) (fun z h1 h2 => fo z (by omega))
          | succ d ih =>
            intro a x1 ω ha fo hi
            have ii := inN (j := a) (n := 3) (by omega) (by decide)
            refine s_X8_check_54 ⟨fun q => absurd q (nI_ge (b := 3) (by omega) (by decide)), fun _ => ⟨ii, ii, ?_⟩⟩
            rw [nI_1]
            refine ih (a + 1) x1 _ (by omega) (fun z hz => by rw [ab_upd_off _ _ hz]; exact fo z hz) (fun i hi2 => ?_)
            rw [nI_clamp (by omega), ab_upd_eq]
            by_cases ei : i = a
            · rw [if_pos ⟨rfl, ei⟩, fo 59 (by decide), ei]
            · rw [if_neg (fun q => ei q.2)]
              exact hi i (by omega)
        exact loop 3 0 _ υ (by omega) (fun _ _ => rfl) (fun i hi => by omega)
end CK2

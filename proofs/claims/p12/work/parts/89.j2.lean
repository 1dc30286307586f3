section FM
variable {σ : ab_M} {Q : Option ab_V → ab_M → Prop}
/-- what the reference has behind a find -/
def rF (ar : Nat → Int32) (Lc : Nat → Nat) (Tc : Nat → Nat → Nat) (m : Nat) (o : Option (Nat × Nat × Nat × (Nat → Nat))) (τ : ab_M) : Prop := match o with
  | none => τ 50 12 = 0
  | some (a, p, t, V) => τ 50 12 = 1 ∧ τ 50 13 = 1 ∧ OR a (od ar a) (OL ar a).length τ ∧ RSr ar (od ar a) (OL ar a).length a Lc Tc m p t V τ
theorem RT.tx {m : Nat} {Lc : Nat → Nat} {Tc : Nat → Nat → Nat} (h : RT m Lc Tc σ) (hA : AR σ) : TX (σ 51) m Lc Tc := ⟨hA, fun i hi => ⟨(h.2.2 i hi).1, fun t ht => ((h.2.2 i hi).2.2.1 t ht).2, (h.2.2 i hi).2.2.2⟩⟩
theorem OSr_OR {ar : Nat → Int32} {n : Nat} (h : OSr (OL ar n) σ) (h7 : σ 50 7 = nI n) : OR n (od ar n) (OL ar n).length σ := ⟨h7, h.1, h.2⟩
theorem fX.v {τ : ab_M} (h : fX σ τ) : fV σ τ := ⟨fun z a b _ _ _ c d => h.1 z a b c d, fun t ht => h.2 t (by omega) (by omega)⟩
theorem RT.mw {m : Nat} {Lc : Nat → Nat} {Tc : Nat → Nat → Nat} {τ : ab_M} (h : RT m Lc Tc σ) (f : fV σ τ) : RT m Lc Tc τ := h.mv (f.2 5 (by decide)) (f.1 _ (by decide) (by decide) (by decide) (by decide) (by decide) (by decide) (by decide)) (f.1 _ (by decide) (by decide) (by decide) (by decide) (by decide) (by decide) (by decide)) (f.1 _ (by decide) (by decide) (by decide) (by decide) (by decide) (by decide) (by decide))
theorem RSr.u50 {ar : Nat → Int32} {ord : Nat → Nat} {c n : Nat} {Lc : Nat → Nat} {Tc : Nat → Nat → Nat} {m p t : Nat} {V : Nat → Nat} (h : RSr ar ord c n Lc Tc m p t V σ) {k : Nat} {v : Int32} (hk : k ≠ 14) : RSr ar ord c n Lc Tc m p t V (ab_upd σ 50 k v) := by
  obtain ⟨a1, a2, a3, a4, a5, a6⟩ := h
  exact ⟨fun j hj => by rw [ab_upd_off _ _ (by decide)]; exact a1 j hj, a2, a3, by rw [ab_upd_eq, if_neg (by omega)]; exact a4, a5, a6⟩
theorem OR.u50 {n c : Nat} {ord : Nat → Nat} (h : OR n ord c σ) {k : Nat} {v : Int32} (h7 : k ≠ 7) (h8 : k ≠ 8) : OR n ord c (ab_upd σ 50 k v) := h.mv (by rw [ab_upd_eq, if_neg (by omega)]) (by rw [ab_upd_eq, if_neg (by omega)]) (fun z hz => ab_upd_off _ _ (by omega))
theorem m_find {m : Nat} {Lc : Nat → Nat} {Tc : Nat → Nat → Nat} {x : Int32} (hA : AR σ) (hT : RT m Lc Tc σ)
    (kB : (x < 1 ∨ ¬ x ≤ 4) → Q (some (.inl (-1))) σ)
    (kF : ∀ w τ, 1 ≤ w → w ≤ 4 → x = nI w → rF (σ 51) Lc Tc m (fsp (σ 51) Lc Tc m w 1 0).2 τ → fV σ τ → Q (some (.inl (fsp (σ 51) Lc Tc m w 1 0).1)) τ) : evm mX8_find [.inr (.inr 50), .inl x] σ Q := by
  have b1 : ∀ τ : ab_M, ab_fit .boolean ((ab_upd τ 50 12 1) 50 12) = true := fun τ => by rw [ab_upd_same]; decide
  have b0 : ∀ τ : ab_M, ab_fit .boolean ((ab_upd τ 50 12 0) 50 12) = true := fun τ => by rw [ab_upd_same]; decide
  refine s_X8_find_0 ⟨fun h => kB (Or.inl h), fun h1 => ⟨fun h4 => ?_, fun h => kB (Or.inr h)⟩⟩
  obtain ⟨w, w1, w4, rfl⟩ := lo_n h1 h4
  have kk := fun τ => kF w τ w1 w4 rfl
  have fu2 : ∀ {τ : ab_M} {v u : Int32}, fV σ τ → fV σ (ab_upd (ab_upd τ 50 12 v) 50 13 u) := fun f => (f.u50 (by decide)).u50 (by decide)
  have end0 : ∀ (x2 : Int32) (a : Nat) (τ : ab_M), (x2 = 0 ∧ w < a ∨ x2 = -4) → a ≤ 5 → fsp (σ 51) Lc Tc m w 1 0 = (x2, none) → fV σ τ → ev mX8_find 26 [some (.inr (.inr 50)), some (.inl (nI w)), some (.inl x2), some (.inl (nI a))] [] τ Q := by
    intro x2 a τ hx a5 e f
    have n1 : ¬ x2 = 1 := by
      rcases hx with ⟨q, _⟩ | q <;> rw [q] <;> decide
    have K : ∀ u, Q (some (.inl x2)) (ab_upd (ab_upd τ 50 12 0) 50 13 u) := fun u => by
      have := kk (ab_upd (ab_upd τ 50 12 0) 50 13 u)
      rw [e] at this
      exact this (by show _ = _; rw [ab_upd_eq, if_neg (by decide), ab_upd_same]) (fu2 f)
    refine s_X8_find_26 ⟨fun _ => ⟨fun q => absurd q n1, fun _ => ⟨b0 τ, fun q => absurd q n1, fun _ => K _⟩⟩, fun h => ⟨fun q => ?_, fun _ => ⟨fun q => absurd q n1, fun _ => ⟨b0 τ, fun q => absurd q n1, fun _ => K _⟩⟩⟩⟩
    exfalso
    rcases hx with ⟨_, q2⟩ | q2
    · exact h (nI_lt q2 (by omega))
    · rw [q] at q2
      exact absurd q2 (by decide)
  have loop : ∀ (d a t : Nat) (τ : ab_M), a + d = w + 1 → 1 ≤ a → τ 50 14 = nI t → t ≤ 3000 → fV σ τ → fsp (σ 51) Lc Tc m d a t = fsp (σ 51) Lc Tc m w 1 0 → ev mX8_find 26 [some (.inr (.inr 50)), some (.inl (nI w)), some (.inl 0), some (.inl (nI a))] [] τ Q := by
    intro d
    induction d with
    | zero =>
      intro a t τ ha a1 h6 t3 f e
      exact end0 0 a τ (Or.inl ⟨rfl, by omega⟩) (by omega) e.symm f
    | succ d ih =>
      intro a t τ ha a1 h6 t3 f e
      have a2 : τ 51 = σ 51 := f.lo (by omega)
      have e1 : fsp (σ 51) Lc Tc m (d + 1) a t = (bif badB (σ 51) Lc Tc m a (fun _ => 0) then fsp (σ 51) Lc Tc m d (a + 1) t else if (wA (σ 51) Lc Tc m a t).1 = 1 then (nI a, some (a, (wA (σ 51) Lc Tc m a t).2)) else if (wA (σ 51) Lc Tc m a t).1 = 0 then fsp (σ 51) Lc Tc m d (a + 1) (wA (σ 51) Lc Tc m a t).2.2.1 else (-4, none)) := rfl
      rw [e] at e1
      refine s_X8_find_26 ⟨fun h => absurd h (nI_nlt (by omega) (by omega)), fun _ => ⟨fun _ => ?_, fun q => absurd rfl q⟩⟩
      refine list_f a1 (by omega) (hA.mw f) (fun υ uo u7 uv fu => ⟨rfl, ?_⟩)
      rw [a2] at uo
      have f2 := f.tr (fV.ofL fu)
      have b51 : υ 51 = σ 51 := f2.lo (by omega)
      have hO := OL_OK (ar := σ 51) (show a ≤ 4 by omega)
      have uV : VVr (fun _ => 0) υ := fun k hk => by
        rw [uv k hk]
        exact ⟨by show (-1 : Int32) = dn 0; decide, Nat.zero_le _⟩
      have u14 : υ 50 14 = nI t := by rw [fu.2 14 (by decide) (by decide)]; exact h6
      rw [nI_1]
      refine sm_f (so := none) (V := fun _ => 0) (fun s h => by cases h) (hA.mw f2) (hT.mw f2) uV (fun _ _ _ => Nat.zero_le _) u7 a1 (by omega) (fun ω fw => ⟨_, rfl, ?_⟩)
      rw [b51]
      have eb : (List.range m).any (smB (σ 51) Lc Tc a none (fun _ => 0)) = badB (σ 51) Lc Tc m a (fun _ => 0) := rfl
      rw [eb]
      have f3 := f2.tr (fV.ofB fw)
      have w14 : ω 50 14 = nI t := by rw [fw.2 14 (by decide)]; exact u14
      cases hb : badB (σ 51) Lc Tc m a (fun _ => 0) with
      | true =>
        rw [hb] at e1
        exact ⟨fun q => absurd q (by decide), fun _ => ih (a + 1) t ω (by omega) (by omega) w14 t3 f3 e1.symm⟩
      | false =>
        rw [hb] at e1
        refine ⟨fun _ => ?_, fun q => absurd rfl q⟩
        have c51 : ω 51 = σ 51 := f3.lo (by omega)
        have orr : OR a (od (σ 51) a) (OL (σ 51) a).length ω := (OSr_OR uo u7).mv (fw.2 7 (by decide)) (fw.2 8 (by decide)) (fun z hz => fw.1 z (by omega) (by omega) (by omega))
        have tx : TX (σ 51) m Lc Tc := hT.tx hA
        have kb : KB (σ 51) (od (σ 51) a) (OL (σ 51) a).length a Lc Tc m 1 (fun _ => 0) := fun k hk W hW _ => badB_f.mpr (fun i x y z hv => by
          rw [brk_ag (V := fun _ => 0) tx a1 (by omega) hO hv (fun _ _ => Nat.zero_le _) (fun j hj => by rw [hW j hj]; split <;> rfl)]
          exact badB_f.mp hb i x y z hv)
        have w0 : wA (σ 51) Lc Tc m a t = wsp (σ 51) (od (σ 51) a) (OL (σ 51) a).length a Lc Tc m 700000 1 t (fun _ => 0) := rfl
        have wr := wsp_res (ar := σ 51) (ord := od (σ 51) a) (c := (OL (σ 51) a).length) (n := a) (Lc := Lc) (Tc := Tc) (m := m) 700000 1 t (fun _ => 0)
        rw [← w0] at wr
        have wk := wk_f (σ := ω) (Q := fun v τ4 => ∃ r5 : Int32, v = some (.inl r5) ∧ ev mX8_find 26 [some (.inr (.inr 50)), some (.inl (nI w)), some (.inl r5), some (.inl (nI (a + 1)))] [] τ4 Q) (Lc := Lc) (Tc := Tc) (m := m) (n := a) (ord := od (σ 51) a) (c := (OL (σ 51) a).length) (by rw [c51]; exact tx) a1 (by omega) (by rw [c51]; exact hO) orr (hT.mw f3) 700000 1 t (fun _ => 0) ω 0 none (by omega)
        rw [c51, ← w0] at wk
        refine s_X8_walk_0 (wk ⟨fun k hk => by rw [fw.1 55 (by decide) (by decide) (by decide)]; exact uV k hk, ⟨fun k _ h => by omega, fun _ _ _ => rfl, fun _ _ => Nat.zero_le _, fun _ _ _ => Nat.zero_le _⟩, kb, w14, t3, by omega⟩ fX.rf (fun ρ fr rs => ⟨_, rfl, ?_⟩))
        have f4 := f3.tr fr.v
        rcases wr with q | q | ⟨q, q2⟩
        · rw [q] at e1 ⊢
          have e2 : fsp (σ 51) Lc Tc m w 1 0 = fsp (σ 51) Lc Tc m d (a + 1) (wA (σ 51) Lc Tc m a t).2.2.1 := by rw [e1]; rfl
          exact ih (a + 1) _ ρ (by omega) (by omega) rs.2.2.2.1 rs.2.2.2.2.1 f4 e2.symm
        · rw [q] at e1 ⊢
          have e2 : fsp (σ 51) Lc Tc m w 1 0 = (-4, none) := by rw [e1]; rfl
          exact end0 (-4) (a + 1) ρ (Or.inr rfl) (by omega) e2 f4
        · rw [q] at e1 ⊢
          have e2 : fsp (σ 51) Lc Tc m w 1 0 = (nI a, some (a, (wA (σ 51) Lc Tc m a t).2)) := by rw [e1]; rfl
          have r7 : ρ 50 7 = nI a := by rw [fr.2 7 (by decide) (by decide)]; exact orr.1
          have or2 : OR a (od (σ 51) a) (OL (σ 51) a).length ρ := orr.mv (fr.2 7 (by decide) (by decide)) (fr.2 8 (by decide) (by decide)) (fun z hz => fr.1 z (by omega) (by omega) (by omega) (by omega))
          have K : Q (some (.inl ((ab_upd (ab_upd ρ 50 12 1) 50 13 ((ab_upd ρ 50 12 1) 50 12)) 50 7))) (ab_upd (ab_upd ρ 50 12 1) 50 13 ((ab_upd ρ 50 12 1) 50 12)) := by
            have := kk (ab_upd (ab_upd ρ 50 12 1) 50 13 ((ab_upd ρ 50 12 1) 50 12))
            rw [e2] at this
            have e7 : (ab_upd (ab_upd ρ 50 12 1) 50 13 ((ab_upd ρ 50 12 1) 50 12)) 50 7 = nI a := by rw [ab_upd_eq, if_neg (by decide), ab_upd_eq, if_neg (by decide)]; exact r7
            rw [e7]
            exact this ⟨by rw [ab_upd_eq, if_neg (by decide), ab_upd_same], by rw [ab_upd_same, ab_upd_same], (or2.u50 (by decide) (by decide)).u50 (by decide) (by decide), (rs.u50 (by decide)).u50 (by decide)⟩ (fu2 f4)
          exact s_X8_find_26 ⟨fun _ => ⟨fun _ => ⟨b1 ρ, fun _ => K, fun x => absurd rfl x⟩, fun x => absurd rfl x⟩, fun _ => ⟨fun x => absurd x (by decide), fun _ => ⟨fun _ => ⟨b1 ρ, fun _ => K, fun x => absurd rfl x⟩, fun x => absurd rfl x⟩⟩⟩
  exact loop w 1 0 _ (by omega) (by omega) (by rw [ab_upd_eq, if_neg (by decide), ab_upd_same]; rfl) (by omega) ((fV.rf.u50 (by decide)).u50 (by decide)) rfl
end FM

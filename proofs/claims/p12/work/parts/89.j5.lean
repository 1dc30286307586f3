/-! both sides' states, with all that the answers depend on -/
def bnd (n : Nat) (V : Nat → Nat) : Prop := (∀ a, a < 64 → V a ≤ n) ∧ (∀ a, 64 ≤ a → a < 128 → V a ≤ 2)
def cO (ar : Nat → Int32) (Lc : Nat → Nat) (Tc : Nat → Nat → Nat) (m : Nat) (o : Option (Nat × Bool × (Nat → Nat))) (σ : ab_M) : Prop := match o with
  | none => σ 0 8 = 0
  | some (n, fr, V) => 1 ≤ n ∧ n ≤ 4 ∧ σ 0 8 = nI n ∧ VVc V σ ∧ bnd n V ∧ (fr = false → σ 0 9 = 1) ∧ (fr = true → σ 0 9 = 0 ∧ OC n (od ar n) (OL ar n).length σ ∧ (∀ k, k < (OL ar n).length → σ 41 k = dn (gaC ar (od ar n k))) ∧ ∃ t, CS ar (od ar n) (OL ar n).length n Lc Tc m ((OL ar n).length + 1) t V σ)
def rO (ar : Nat → Int32) (Lc : Nat → Nat) (Tc : Nat → Nat → Nat) (m : Nat) (o : Option (Nat × Bool × (Nat → Nat))) (σ : ab_M) : Prop := match o with
  | none => σ 50 12 = 0
  | some (n, fr, V) => 1 ≤ n ∧ n ≤ 4 ∧ σ 50 12 = 1 ∧ σ 50 7 = nI n ∧ VVr V σ ∧ bnd n V ∧ (fr = false → σ 50 13 = 0) ∧ (fr = true → σ 50 13 = 1 ∧ OR n (od ar n) (OL ar n).length σ ∧ ∃ t, RSr ar (od ar n) (OL ar n).length n Lc Tc m ((OL ar n).length + 1) t V σ)
/-- found, but clauses have come or gone since -/
def sta (o : Option (Nat × Bool × (Nat → Nat))) : Option (Nat × Bool × (Nat → Nat)) := match o with
  | none => none
  | some (n, _, V) => some (n, false, V)
def CP (m u : Nat) (b : Nat → Nat) (Lc : Nat → Nat) (Tc : Nat → Nat → Nat) (o : Option (Nat × Bool × (Nat → Nat))) (σ : ab_M) : Prop := (∀ j, j < 8 → arok (σ 2 j)) ∧ CT m Lc Tc σ ∧ Bf σ u b ∧ CA σ ∧ cO (σ 2) Lc Tc m o σ
def RP (m u : Nat) (b : Nat → Nat) (Lc : Nat → Nat) (Tc : Nat → Nat → Nat) (o : Option (Nat × Bool × (Nat → Nat))) (σ : ab_M) : Prop := AR σ ∧ RT m Lc Tc σ ∧ Bm σ u b ∧ rO (σ 51) Lc Tc m o σ
def IW (σ : ab_M) : Prop := ∃ m u b Lc Tc o, CP m u b Lc Tc o σ ∧ RP m u b Lc Tc o σ ∧ σ 51 = σ 2 ∧ ∀ v, v < 3 → σ 49 v = σ 60 v
section MV
variable {σ τ : ab_M} {m u : Nat} {b : Nat → Nat} {Lc : Nat → Nat} {Tc : Nat → Nat → Nat} {o : Option (Nat × Bool × (Nat → Nat))} {ar : Nat → Int32}
theorem VVc.mv {V : Nat → Nat} (h : VVc V σ) (f : τ 38 = σ 38) : VVc V τ := fun k hk => by rw [f]; exact h k hk
theorem VVr.mv {V : Nat → Nat} (h : VVr V σ) (f : τ 55 = σ 55) : VVr V τ := fun k hk => by rw [f]; exact h k hk
theorem CS.mv2 {ord : Nat → Nat} {c n p t s : Nat} {V : Nat → Nat} (h : CS ar ord c n Lc Tc m p t V σ) (f8 : τ 38 = σ 38) (f6 : τ 46 = σ 46) (f7 : τ 47 = σ 47) (f48 : τ 48 = σ 48) (h6 : τ 45 6 = nI s) (hs : s ≤ 3000) : CS ar ord c n Lc Tc m p s V τ := by
  obtain ⟨h1, h2, h3, h4, h5, _, _, h9⟩ := h
  exact ⟨h1.mv f8, h2, h3.mv f6 f7, fun hp => (h4 hp).mv f6 f7, fun k hk => by rw [f48]; exact h5 k hk, h6, hs, h9⟩
theorem cO.mv (h : cO ar Lc Tc m o σ) (h8 : τ 0 8 = σ 0 8) (h9 : τ 0 9 = σ 0 9) (f : ∀ z, 37 ≤ z → z < 49 → (z < 42 ∨ 46 ≤ z) → τ z = σ z) (h6 : τ 45 6 = σ 45 6 ∨ τ 45 6 = 0) : cO ar Lc Tc m o τ := by
  cases o with
  | none => exact h8.trans h
  | some q =>
    obtain ⟨n, fr, V⟩ := q
    obtain ⟨n1, n4, e8, hv, hb, hs, hf⟩ := h
    refine ⟨n1, n4, by rw [h8]; exact e8, hv.mv (f 38 (by omega) (by omega) (by omega)), hb, fun q => by rw [h9]; exact hs q, fun q => ?_⟩
    obtain ⟨e9, oc, o41, t, cs⟩ := hf q
    refine ⟨by rw [h9]; exact e9, oc.mv (fun z hz => f z (by omega) (by omega) (by omega)), fun k hk => by rw [f 41 (by omega) (by omega) (by omega)]; exact o41 k hk, ?_⟩
    have g : ∀ {s : Nat}, τ 45 6 = nI s → s ≤ 3000 → CS ar (od ar n) (OL ar n).length n Lc Tc m ((OL ar n).length + 1) s V τ := fun e hs => cs.mv2 (f 38 (by omega) (by omega) (by omega)) (f 46 (by omega) (by omega) (by omega)) (f 47 (by omega) (by omega) (by omega)) (f 48 (by omega) (by omega) (by omega)) e hs
    rcases h6 with h6 | h6
    · exact ⟨t, g (h6.trans cs.2.2.2.2.2.1) cs.2.2.2.2.2.2.1⟩
    · exact ⟨0, g h6 (by omega)⟩
theorem cO.st {ar' : Nat → Int32} {Lc' : Nat → Nat} {Tc' : Nat → Nat → Nat} {m' : Nat} (h : cO ar Lc Tc m o σ) (h8 : τ 0 8 = σ 0 8) (h9 : τ 0 9 = 1) (f : τ 38 = σ 38) : cO ar' Lc' Tc' m' (sta o) τ := by
  cases o with
  | none => exact h8.trans h
  | some q =>
    obtain ⟨n, fr, V⟩ := q
    obtain ⟨n1, n4, e8, hv, hb, _⟩ := h
    exact ⟨n1, n4, by rw [h8]; exact e8, hv.mv f, hb, fun _ => h9, fun q => by cases q⟩
theorem rO.mv (h : rO ar Lc Tc m o σ) (h5 : ∀ t, t = 7 ∨ t = 8 ∨ t = 12 ∨ t = 13 ∨ t = 14 → τ 50 t = σ 50 t) (f : ∀ z, 55 ≤ z → z < 59 → τ z = σ z) : rO ar Lc Tc m o τ := by
  cases o with
  | none => exact (h5 12 (by omega)).trans h
  | some q =>
    obtain ⟨n, fr, V⟩ := q
    obtain ⟨n1, n4, e12, e7, hv, hb, hs, hf⟩ := h
    refine ⟨n1, n4, by rw [h5 12 (by omega)]; exact e12, by rw [h5 7 (by omega)]; exact e7, hv.mv (f 55 (by omega) (by omega)), hb, fun q => by rw [h5 13 (by omega)]; exact hs q, fun q => ?_⟩
    obtain ⟨e13, orr, t, s1, s2, s3, s4, s5, s6⟩ := hf q
    exact ⟨by rw [h5 13 (by omega)]; exact e13, orr.mv (h5 7 (by omega)) (h5 8 (by omega)) (fun z hz => f z (by omega) (by omega)), t, s1.mv (f 55 (by omega) (by omega)), s2, s3, by rw [h5 14 (by omega)]; exact s4, s5, s6⟩
theorem rO.st {ar' : Nat → Int32} {Lc' : Nat → Nat} {Tc' : Nat → Nat → Nat} {m' : Nat} (h : rO ar Lc Tc m o σ) (h12 : τ 50 12 = σ 50 12) (h7 : τ 50 7 = σ 50 7) (h13 : τ 50 13 = 0) (f : τ 55 = σ 55) : rO ar' Lc' Tc' m' (sta o) τ := by
  cases o with
  | none => exact h12.trans h
  | some q =>
    obtain ⟨n, fr, V⟩ := q
    obtain ⟨n1, n4, e12, e7, hv, hb, _⟩ := h
    exact ⟨n1, n4, by rw [h12]; exact e12, by rw [h7]; exact e7, hv.mv f, hb, fun _ => h13, fun q => by cases q⟩
theorem Kp.mv {q L : Nat} {T : Nat → Nat} (h : Kp q T L σ) (f : ∀ z, q ≤ z → z < q + 3 → τ z = σ z) : Kp q T L τ := by
  obtain ⟨h1, h2, h3⟩ := h
  exact ⟨by rw [f q (by omega) (by omega)]; exact h1, fun t ht => by rw [f (q + 1) (by omega) (by omega)]; exact h2 t ht, fun v hv => by rw [f (q + 2) (by omega) (by omega)]; exact h3 v hv⟩
theorem CT.mv2 (h : CT m Lc Tc σ) (f2 : τ 2 = σ 2) (f5 : τ 5 1 = σ 5 1) (f7 : ∀ z, 7 ≤ z → z < 7 + 3 * m → τ z = σ z) : CT m Lc Tc τ := by
  obtain ⟨h1, h2, h3⟩ := h
  refine ⟨h1, by rw [f5]; exact h2, fun i hi => ?_⟩
  obtain ⟨a1, a2, a3, a4⟩ := h3 i hi
  exact ⟨a1, a2.mv (fun z hz hz2 => f7 z (by omega) (by omega)), a3, by rw [f2]; exact a4⟩
theorem CP.mv {u' : Nat} {b' : Nat → Nat} (h : CP m u b Lc Tc o σ) (f2 : τ 2 = σ 2) (f5 : τ 5 1 = σ 5 1) (f7 : ∀ z, 7 ≤ z → z < 7 + 3 * m → τ z = σ z) (hB : Bf τ u' b') (h8 : τ 0 8 = σ 0 8) (h9 : τ 0 9 = σ 0 9) (f : ∀ z, 37 ≤ z → z < 49 → (z < 42 ∨ 46 ≤ z) → τ z = σ z) (h6 : τ 45 6 = σ 45 6 ∨ τ 45 6 = 0) : CP m u' b' Lc Tc o τ := by
  obtain ⟨h1, h2, _, h4, h5⟩ := h
  refine ⟨by rw [f2]; exact h1, h2.mv2 f2 f5 f7, hB, h4.mv (f 46 (by omega) (by omega) (by omega)) (f 47 (by omega) (by omega) (by omega)), ?_⟩
  rw [f2]
  exact h5.mv h8 h9 f h6
theorem Bf.mv (h : Bf σ u b) (f3 : τ 3 = σ 3) (f4 : τ 4 = σ 4) : Bf τ u b := by
  unfold Bf
  rw [f3, f4]
  exact h
theorem Bm.mv (h : Bm σ u b) (f3 : τ 50 2 = σ 50 2) (f4 : τ 52 = σ 52) : Bm τ u b := by
  unfold Bm
  rw [f3, f4]
  exact h
theorem CP.of (h : CP m u b Lc Tc o σ) (f : ∀ z, z < 50 → τ z = σ z) : CP m u b Lc Tc o τ := by
  have m8 := h.2.1.1
  exact h.mv (f _ (by decide)) (by rw [f 5 (by decide)]) (fun z _ hz => f z (by omega)) (h.2.2.1.mv (f _ (by decide)) (f _ (by decide))) (by rw [f 0 (by decide)]) (by rw [f 0 (by decide)]) (fun z _ hz _ => f z (by omega)) (Or.inl (by rw [f 45 (by decide)]))
theorem RT.mv2 (h : RT m Lc Tc σ) (f5 : τ 50 5 = σ 50 5) (f1 : τ 51 = σ 51) (f4 : ∀ i, i < m → τ 54 i = σ 54 i) (f3 : ∀ z, z < 60 * m → τ 53 z = σ 53 z) : RT m Lc Tc τ := by
  obtain ⟨h1, h2, h3⟩ := h
  refine ⟨h1, by rw [f5]; exact h2, fun i hi => ?_⟩
  obtain ⟨a1, a2, a3, a4⟩ := h3 i hi
  exact ⟨a1, by rw [f4 i hi]; exact a2, fun t ht => by rw [f3 _ (by omega)]; exact a3 t ht, by rw [f1]; exact a4⟩
theorem RP.mv {u' : Nat} {b' : Nat → Nat} (h : RP m u b Lc Tc o σ) (f1 : τ 51 = σ 51) (f4 : ∀ i, i < m → τ 54 i = σ 54 i) (f3 : ∀ z, z < 60 * m → τ 53 z = σ 53 z) (hB : Bm τ u' b') (h5 : ∀ t, t = 5 ∨ t = 7 ∨ t = 8 ∨ t = 12 ∨ t = 13 ∨ t = 14 → τ 50 t = σ 50 t) (f : ∀ z, 55 ≤ z → z < 59 → τ z = σ z) : RP m u' b' Lc Tc o τ := by
  obtain ⟨h1, h2, _, h4⟩ := h
  refine ⟨fun j hj => by rw [f1]; exact h1 j hj, h2.mv2 (h5 5 (by omega)) f1 f4 f3, hB, ?_⟩
  rw [f1]
  exact h4.mv (fun t ht => h5 t (by omega)) f
theorem RP.of (h : RP m u b Lc Tc o σ) (f : ∀ z, 50 ≤ z → τ z = σ z) : RP m u b Lc Tc o τ := h.mv (f _ (by decide)) (fun i _ => by rw [f 54 (by decide)]) (fun z _ => by rw [f 53 (by decide)]) (h.2.2.1.mv (by rw [f 50 (by decide)]) (f _ (by decide))) (fun t _ => by rw [f 50 (by decide)]) (fun z hz _ => f z (by omega))
end MV
/-- what stands behind a clause -/
def ups {α : Type} (m : Nat) (x : α) (f : Nat → α) (i : Nat) : α := if i = m then x else f i
def clL (m u : Nat) (Lc : Nat → Nat) (a : Option Nat) : Nat → Nat := match a with
  | none => if m < 8 then ups m u Lc else Lc
  | some _ => Lc
def clT (m : Nat) (b : Nat → Nat) (Tc : Nat → Nat → Nat) (a : Option Nat) : Nat → Nat → Nat := match a with
  | none => if m < 8 then ups m b Tc else Tc
  | some _ => Tc
def clO (m : Nat) (o : Option (Nat × Bool × (Nat → Nat))) (a : Option Nat) : Option (Nat × Bool × (Nat → Nat)) := match a with
  | none => if m < 8 then sta o else o
  | some _ => o
section CL2
variable {σ : ab_M} {Q : Option ab_V → ab_M → Prop} {m u : Nat} {b : Nat → Nat} {Lc : Nat → Nat} {Tc : Nat → Nat → Nat} {o : Option (Nat × Bool × (Nat → Nat))}
theorem c2_clause (h : CP m u b Lc Tc o σ) (k : ∀ τ, CP (clM m (aur (σ 2) b u 0 (-2))) 0 b (clL m u Lc (aur (σ 2) b u 0 (-2))) (clT m b Tc (aur (σ 2) b u 0 (-2))) (clO m o (aur (σ 2) b u 0 (-2))) τ → (∀ z, 49 ≤ z → τ z = σ z) → τ 2 = σ 2 → Q (some (.inl (clR m (aur (σ 2) b u 0 (-2))))) τ) : evm mX7_clause [.inr (.inr 0)] σ Q := by
  obtain ⟨hA, hC, hB, hCA, hO⟩ := id h
  have m8 := hC.1
  have hcl : Cl (7 + 3 * m) := ⟨m, by omega, rfl⟩
  refine s_X7_clause_0 (s_X2_free_0 ?_)
  rw [hC.2.1]
  refine at_s m8 ⟨_, rfl, ⟨_, rfl, ⟨_, (Cl_sh hcl).1⟩, ?_⟩⟩
  refine rd_ok hcl hB hA (fun τ f hk => ⟨_, rfl, s_X0_empty_0 ⟨rfl, ?_⟩⟩)
  have e1 : ∀ z, z ≠ 3 → (z < 7 + 3 * m ∨ 7 + 3 * m + 2 < z) → (ab_upd τ 3 1 0) z = σ z := fun z z3 hz => by rw [ab_upd_off _ _ z3]; exact f z (by omega) (by omega) (by omega)
  have hv : CP m 0 b Lc Tc o (ab_upd τ 3 1 0) := h.mv (e1 2 (by omega) (by omega)) (by rw [e1 5 (by omega) (by omega)]) (fun z h1 h2 => e1 z (by omega) (by omega)) ⟨by omega, ab_upd_same _ _ _ _, fun t ht => by omega⟩ (by rw [e1 0 (by omega) (by omega)]) (by rw [e1 0 (by omega) (by omega)]) (fun z h1 h2 _ => e1 z (by omega) (by omega)) (Or.inl (by rw [e1 45 (by omega) (by omega)]))
  have f50 : ∀ z, 49 ≤ z → (ab_upd τ 3 1 0) z = σ z := fun z hz => e1 z (by omega) (by omega)
  have f2 : (ab_upd τ 3 1 0) 2 = σ 2 := e1 2 (by omega) (by omega)
  have hL : aur (σ 2) b u 0 (-2) = none → Kp (7 + 3 * m) b u (ab_upd τ 3 1 0) ∧ aur ((ab_upd τ 3 1 0) 2) b u 0 (-2) = none := fun e => ⟨(hk e).mv (fun z h1 h2 => ab_upd_off _ _ (by omega)), by rw [f2]; exact e⟩
  have ho := aur_le (σ 2) b u 0 (-2)
  have u60 := hB.1
  have bt : ∀ t, t < u → b t < 256 := fun t ht => (hB.2.2 t ht).2
  generalize ab_upd τ 3 1 0 = υ at hv f50 f2 hL ⊢
  generalize aur (σ 2) b u 0 (-2) = a at k hL ho ⊢
  cases a with
  | some p =>
    have hp := ho p rfl
    refine ⟨fun q => ?_, fun _ => k υ hv f50 f2⟩
    exfalso
    have q2 : (nI p).toInt = (-1 : Int32).toInt := congrArg Int32.toInt q
    rw [nI_toInt (by omega), li_m1] at q2
    omega
  | none =>
    refine ⟨fun _ => s_X2_isFull_0 ?_, fun q => absurd rfl q⟩
    have c5 := hv.2.1.2.1
    rw [c5]
    have l8 : nI m < 8 ↔ m < 8 := nI_ltI (b := 8) (by omega) (by decide)
    refine ⟨fun q => ⟨_, rfl, fun _ => ?_, fun q2 => absurd rfl q2⟩, fun q => ⟨_, rfl, fun q2 => absurd q2 (by decide), fun _ => ?_⟩⟩
    · have q1 := l8.mp q
      have w5 : (ab_upd υ 0 9 1) 5 1 = nI m := by rw [ab_upd_off _ _ (by decide)]; exact c5
      refine s_X2_keepFree_0 (s_X2_isFull_0 ⟨fun _ => ⟨_, rfl, fun _ => ⟨_, rfl, ?_⟩, fun q2 => absurd rfl q2⟩, fun q2 => absurd (by rw [w5]; exact q) q2⟩)
      rw [ab_upd_same, w5, nI_1]
      have e : clR m none = nI (m + 1) := if_pos q1
      have e' : clM m none = m + 1 := if_pos q1
      have eL : clL m u Lc none = ups m u Lc := if_pos q1
      have eT : clT m b Tc none = ups m b Tc := if_pos q1
      have eO : clO m o none = sta o := if_pos q1
      rw [e, e', eL, eT, eO] at k
      have g : ∀ z, z ≠ 0 → z ≠ 5 → (ab_upd (ab_upd υ 0 9 1) 5 1 (nI (m + 1))) z = υ z := fun z z0 z5 => by rw [ab_upd_off _ _ z5, ab_upd_off _ _ z0]
      have g2 := g 2 (by omega) (by omega)
      refine k _ ⟨by rw [g2]; exact hv.1, ⟨by omega, ab_upd_same _ _ _ _, fun i hi => ?_⟩, hv.2.2.1.mv (g 3 (by omega) (by omega)) (g 4 (by omega) (by omega)), hv.2.2.2.1.mv (g 46 (by omega) (by omega)) (g 47 (by omega) (by omega)), hv.2.2.2.2.st (by rw [ab_upd_off _ _ (by decide), ab_upd_eq, if_neg (by decide)]) (by rw [ab_upd_off _ _ (by decide), ab_upd_same]) (g 38 (by omega) (by omega))⟩ (fun z hz => by rw [g z (by omega) (by omega)]; exact f50 z hz) (by rw [g2]; exact f2)
      obtain ⟨p1, p2⟩ := hL rfl
      rw [g2]
      by_cases ei : i = m
      · subst ei
        have x1 : ups i u Lc i = u := if_pos rfl
        have x2 : ups i b Tc i = b := if_pos rfl
        rw [x1, x2]
        exact ⟨u60, p1.mv (fun z h1 h2 => g z (by omega) (by omega)), bt, p2⟩
      · have x1 : ups m u Lc i = Lc i := if_neg ei
        have x2 : ups m b Tc i = Tc i := if_neg ei
        rw [x1, x2]
        obtain ⟨a1, a2, a3, a4⟩ := hv.2.1.2.2 i (by omega)
        exact ⟨a1, a2.mv (fun z h1 h2 => g z (by omega) (by omega)), a3, a4⟩
    · have q1 : ¬ m < 8 := fun q2 => q (l8.mpr q2)
      have e : clR m none = -3 := if_neg q1
      have e' : clM m none = m := if_neg q1
      have eL : clL m u Lc none = Lc := if_neg q1
      have eT : clT m b Tc none = Tc := if_neg q1
      have eO : clO m o none = o := if_neg q1
      rw [e, e', eL, eT, eO] at k
      exact k υ hv f50 f2
theorem m2_clause (h : RP m u b Lc Tc o σ) (k : ∀ τ, RP (clM m (aur (σ 51) b u 0 (-2))) 0 b (clL m u Lc (aur (σ 51) b u 0 (-2))) (clT m b Tc (aur (σ 51) b u 0 (-2))) (clO m o (aur (σ 51) b u 0 (-2))) τ → (∀ z, z < 50 → τ z = σ z) → τ 51 = σ 51 → τ 60 = σ 60 → Q (some (.inl (clR m (aur (σ 51) b u 0 (-2))))) τ) : evm mX8_clause [.inr (.inr 50)] σ Q := by
  obtain ⟨hA, hC, hB, hO⟩ := id h
  have m8 := hC.1
  have ho := aur_le (σ 51) b u 0 (-2)
  have u60 := hB.1
  have bt := hB.2.2
  refine s_X8_clause_0 (wr_ok hB hA ⟨_, rfl, ?_⟩)
  have g50 : ∀ z, z ≠ 50 → (ab_upd σ 50 2 0) z = σ z := fun z hz => ab_upd_off _ _ hz
  have hv : RP m 0 b Lc Tc o (ab_upd σ 50 2 0) := h.mv (g50 51 (by decide)) (fun i _ => by rw [g50 54 (by decide)]) (fun z _ => by rw [g50 53 (by decide)]) ⟨by omega, ab_upd_same _ _ _ _, fun t ht => by omega⟩ (fun t ht => by rw [ab_upd_eq, if_neg (by omega)]) (fun z h1 _ => g50 z (by omega))
  have f50 : ∀ z, z < 50 → (ab_upd σ 50 2 0) z = σ z := fun z hz => ab_upd_off _ _ (by omega)
  have f2 : (ab_upd σ 50 2 0) 51 = σ 51 := ab_upd_off _ _ (by decide)
  have f60 : (ab_upd σ 50 2 0) 60 = σ 60 := ab_upd_off _ _ (by decide)
  cases eo : aur (σ 51) b u 0 (-2) with
  | some p =>
    rw [eo] at k
    have hp := ho p eo
    have n0 : ¬ nI p < 0 := nI_pos (by omega)
    exact ⟨fun _ => ⟨fun q => absurd q n0, fun _ => k _ hv f50 f2 f60⟩, fun q => absurd (nI_pos' (by omega)) q⟩
  | none =>
    rw [eo] at k
    refine ⟨fun q => absurd q (by decide), fun _ => ⟨fun q => ⟨fun _ => ?_, fun q2 => absurd (by decide) q2⟩, fun q => ?_⟩⟩
    · have q1 : ¬ m < 8 := by
        rw [hC.2.1] at q
        have := (nI_eq (a := m) (b := 8) (by omega) (by decide)).mp q
        omega
      have e : clR m none = -3 := if_neg q1
      have e' : clM m none = m := if_neg q1
      have eL : clL m u Lc none = Lc := if_neg q1
      have eT : clT m b Tc none = Tc := if_neg q1
      have eO : clO m o none = o := if_neg q1
      rw [e, e', eL, eT, eO] at k
      exact k _ hv f50 f2 f60
    · have q1 : m < 8 := by
        rcases Nat.lt_or_ge m 8 with g | g
        · exact g
        · exfalso
          have : m = 8 := by omega
          exact q (by rw [hC.2.1, this]; rfl)
      have e : clR m none = nI (m + 1) := if_pos q1
      have e' : clM m none = m + 1 := if_pos q1
      have eL : clL m u Lc none = ups m u Lc := if_pos q1
      have eT : clT m b Tc none = ups m b Tc := if_pos q1
      have eO : clO m o none = sta o := if_pos q1
      rw [e, e', eL, eT, eO] at k
      rw [hC.2.1]
      refine kpm_ok hB m8 (fun τ a1 a2 a3 a4 a5 a6 a7 => ⟨rfl, ?_⟩)
      have t5 : τ 50 5 = nI m := by rw [a2 5 (by decide)]; exact hC.2.1
      rw [t5, nI_1]
      have v5 : (ab_upd (ab_upd τ 50 5 (nI (m + 1))) 50 13 0) 50 5 = nI (m + 1) := by rw [ab_upd_eq, if_neg (by decide), ab_upd_same]
      rw [v5]
      have g : ∀ z, z ≠ 50 → (ab_upd (ab_upd τ 50 5 (nI (m + 1))) 50 13 0) z = τ z := fun z hz => by rw [ab_upd_off _ _ hz, ab_upd_off _ _ hz]
      have g0 : ∀ t, t ≠ 5 → t ≠ 13 → (ab_upd (ab_upd τ 50 5 (nI (m + 1))) 50 13 0) 50 t = τ 50 t := fun t h1 h2 => by rw [ab_upd_eq, if_neg (by omega), ab_upd_eq, if_neg (by omega)]
      have g13 : (ab_upd (ab_upd τ 50 5 (nI (m + 1))) 50 13 0) 50 13 = 0 := ab_upd_same _ _ _ _
      have t51 : τ 51 = σ 51 := a1 51 (by decide) (by decide) (by decide)
      generalize ab_upd (ab_upd τ 50 5 (nI (m + 1))) 50 13 0 = ω at v5 g g0 g13 ⊢
      refine k _ ⟨fun j hj => by rw [g 51 (by decide), t51]; exact hA j hj, ⟨by omega, v5, fun i hi => ?_⟩, ⟨by omega, by rw [g0 2 (by decide) (by decide)]; exact a3, fun t ht => by omega⟩, ?_⟩ (fun z hz => by rw [g z (by omega)]; exact a1 z (by omega) (by omega) (by omega)) (by rw [g 51 (by decide)]; exact t51) (by rw [g 60 (by decide)]; exact a1 60 (by decide) (by decide) (by decide))
      · refine RT1.of ?_ (g _ (by decide)) (g _ (by decide)) (g _ (by decide))
        by_cases ei : i = m
        · subst ei
          have x1 : ups i u Lc i = u := if_pos rfl
          have x2 : ups i b Tc i = b := if_pos rfl
          rw [x1, x2]
          exact ⟨u60, a5, fun t ht => ⟨a6 t ht, (bt t ht).2⟩, by rw [t51]; exact eo⟩
        · have x1 : ups m u Lc i = Lc i := if_neg ei
          have x2 : ups m b Tc i = Tc i := if_neg ei
          rw [x1, x2]
          obtain ⟨b1, b2, b3, b4⟩ := hC.2.2 i (by omega)
          exact ⟨b1, by rw [a4 i ei]; exact b2, fun t ht => by rw [a7 _ (by omega)]; exact b3 t ht, by rw [t51]; exact b4⟩
      · exact hO.st (by rw [g0 12 (by decide) (by decide), a2 12 (by decide)]) (by rw [g0 7 (by decide) (by decide), a2 7 (by decide)]) g13 (by rw [g 55 (by decide)]; exact a1 55 (by decide) (by decide) (by decide))
/-- drop -/
def drO (m : Nat) (o : Option (Nat × Bool × (Nat → Nat))) : Option (Nat × Bool × (Nat → Nat)) := if m = 0 then o else sta o
theorem c2_drop (h : CP m u b Lc Tc o σ) (k : ∀ τ, CP (m - 1) u b Lc Tc (drO m o) τ → (∀ z, 49 ≤ z → τ z = σ z) → τ 2 = σ 2 → Q (some (.inl (if m = 0 then -2 else nI (m - 1)))) τ) : evm mX7_drop [.inr (.inr 0)] σ Q := by
  obtain ⟨hA, hC, hB, hCA, hO⟩ := id h
  have m8 := hC.1
  refine s_X7_drop_0 (s_X2_count_0 ⟨_, rfl, ?_⟩)
  rw [hC.2.1]
  rcases m with _ | m
  · exact ⟨fun _ => k σ h (fun _ _ => rfl) rfl, fun q => absurd rfl q⟩
  · refine ⟨fun q => absurd q (nI_ne0 (by omega) (by omega)), fun _ => s_X2_forgetLast_0 ?_⟩
    have w5 : (ab_upd σ 0 9 1) 5 1 = nI (m + 1) := by rw [ab_upd_off _ _ (by decide)]; exact hC.2.1
    rw [w5, nI_pred, ab_upd_same]
    refine ⟨fun q => absurd ((nI_leI (b := 0) (by omega) (by decide)).mp q) (by omega), fun _ => ⟨_, rfl, ?_⟩⟩
    have g : ∀ z, z ≠ 0 → z ≠ 5 → (ab_upd (ab_upd σ 0 9 1) 5 1 (nI m)) z = σ z := fun z z0 z5 => by rw [ab_upd_off _ _ z5, ab_upd_off _ _ z0]
    have g2 := g 2 (by omega) (by omega)
    refine k _ ⟨by rw [g2]; exact hA, ⟨by omega, ab_upd_same _ _ _ _, fun i hi => ?_⟩, hB.mv (g 3 (by omega) (by omega)) (g 4 (by omega) (by omega)), hCA.mv (g 46 (by omega) (by omega)) (g 47 (by omega) (by omega)), hO.st (by rw [ab_upd_off _ _ (by decide), ab_upd_eq, if_neg (by decide)]) (by rw [ab_upd_off _ _ (by decide), ab_upd_same]) (g 38 (by omega) (by omega))⟩ (fun z hz => g z (by omega) (by omega)) g2
    obtain ⟨a1, a2, a3, a4⟩ := hC.2.2 i (by omega)
    exact ⟨a1, a2.mv (fun z h1 h2 => g z (by omega) (by omega)), a3, by rw [g2]; exact a4⟩
theorem m2_drop (h : RP m u b Lc Tc o σ) (k : ∀ τ, RP (m - 1) u b Lc Tc (drO m o) τ → (∀ z, z < 50 → τ z = σ z) → τ 51 = σ 51 → τ 60 = σ 60 → Q (some (.inl (if m = 0 then -2 else nI (m - 1)))) τ) : evm mX8_drop [.inr (.inr 50)] σ Q := by
  obtain ⟨hA, hC, hB, hO⟩ := id h
  have m8 := hC.1
  refine s_X8_drop_0 ?_
  rw [hC.2.1]
  rcases m with _ | m
  · exact ⟨fun _ => k σ h (fun _ _ => rfl) rfl rfl, fun q => absurd rfl q⟩
  · refine ⟨fun q => absurd q (nI_ne0 (by omega) (by omega)), fun _ => ?_⟩
    rw [nI_pred]
    have v5 : (ab_upd (ab_upd σ 50 5 (nI m)) 50 13 0) 50 5 = nI m := by rw [ab_upd_eq, if_neg (by decide), ab_upd_same]
    rw [v5]
    have g : ∀ z, z ≠ 50 → (ab_upd (ab_upd σ 50 5 (nI m)) 50 13 0) z = σ z := fun z hz => by rw [ab_upd_off _ _ hz, ab_upd_off _ _ hz]
    have g0 : ∀ t, t ≠ 5 → t ≠ 13 → (ab_upd (ab_upd σ 50 5 (nI m)) 50 13 0) 50 t = σ 50 t := fun t h1 h2 => by rw [ab_upd_eq, if_neg (by omega), ab_upd_eq, if_neg (by omega)]
    exact k _ ⟨fun j hj => by rw [g 51 (by decide)]; exact hA j hj, ⟨by omega, v5, fun i hi => (hC.2.2 i (by omega)).of (g _ (by decide)) (g _ (by decide)) (g _ (by decide))⟩, hB.mv (g0 2 (by decide) (by decide)) (g 52 (by decide)), hO.st (g0 12 (by decide) (by decide)) (g0 7 (by decide) (by decide)) (ab_upd_same _ _ _ _) (g 55 (by decide))⟩ (fun z hz => g z (by omega)) (g 51 (by decide)) (g 60 (by decide))
end CL2

/-! find: one function over the sizes -/
theorem wsp_res {ar : Nat → Int32} {ord : Nat → Nat} {c n : Nat} {Lc : Nat → Nat} {Tc : Nat → Nat → Nat} {m : Nat} : ∀ (f p t : Nat) (V : Nat → Nat), ((wsp ar ord c n Lc Tc m f p t V).1 = 0 ∨ (wsp ar ord c n Lc Tc m f p t V).1 = -4 ∨ ((wsp ar ord c n Lc Tc m f p t V).1 = 1 ∧ c < (wsp ar ord c n Lc Tc m f p t V).2.1)) := by
  intro f
  induction f with
  | zero => exact fun _ _ _ => Or.inr (Or.inl rfl)
  | succ f ih =>
    intro p t V
    unfold wsp
    split
    · exact Or.inl rfl
    · split
      · rename_i h
        exact Or.inr (Or.inr ⟨rfl, h⟩)
      · split
        · split
          · exact Or.inr (Or.inl rfl)
          · exact ih _ _ _
        · exact ih _ _ _
def wA (ar : Nat → Int32) (Lc : Nat → Nat) (Tc : Nat → Nat → Nat) (m a t : Nat) : Int32 × Nat × Nat × (Nat → Nat) := wsp ar (od ar a) (OL ar a).length a Lc Tc m 700000 1 t (fun _ => 0)
def fsp (ar : Nat → Int32) (Lc : Nat → Nat) (Tc : Nat → Nat → Nat) (m : Nat) : Nat → Nat → Nat → Int32 × Option (Nat × Nat × Nat × (Nat → Nat))
  | 0, _, _ => (0, none)
  | d + 1, a, t => bif badB ar Lc Tc m a (fun _ => 0) then fsp ar Lc Tc m d (a + 1) t else if (wA ar Lc Tc m a t).1 = 1 then (nI a, some (a, (wA ar Lc Tc m a t).2)) else if (wA ar Lc Tc m a t).1 = 0 then fsp ar Lc Tc m d (a + 1) (wA ar Lc Tc m a t).2.2.1 else (-4, none)
section FC0
theorem CT.mv1 {σ : ab_M} {m : Nat} {Lc : Nat → Nat} {Tc : Nat → Nat → Nat} {τ : ab_M} (h : CT m Lc Tc σ) (f : ∀ z, 0 < z → z < 37 → τ z = σ z) : CT m Lc Tc τ := by
  obtain ⟨h1, h2, h3⟩ := h
  refine ⟨h1, by rw [f 5 (by omega) (by omega)]; exact h2, fun i hi => ?_⟩
  obtain ⟨a, b, c, d⟩ := h3 i hi
  refine ⟨a, ?_, c, by rw [f 2 (by omega) (by omega)]; exact d⟩
  unfold Kp
  rw [f (7 + 3 * i) (by omega) (by omega), f (7 + 3 * i + 1) (by omega) (by omega), f (7 + 3 * i + 2) (by omega) (by omega)]
  exact b
end FC0
section FC
variable {σ : ab_M} {Q : Option ab_V → ab_M → Prop}
/-- what the class has behind a find -/
def cF (ar : Nat → Int32) (Lc : Nat → Nat) (Tc : Nat → Nat → Nat) (m : Nat) (o : Option (Nat × Nat × Nat × (Nat → Nat))) (τ : ab_M) : Prop := CA τ ∧ match o with
  | none => τ 0 8 = 0
  | some (a, p, t, V) => 1 ≤ a ∧ a ≤ 4 ∧ τ 0 8 = nI a ∧ τ 0 9 = 0 ∧ p = (OL ar a).length + 1 ∧ OC a (od ar a) (OL ar a).length τ ∧ (∀ k, k < (OL ar a).length → τ 41 k = dn (gaC ar (od ar a k))) ∧ CS ar (od ar a) (OL ar a).length a Lc Tc m p t V τ
theorem CS.mv0 {ar : Nat → Int32} {ord : Nat → Nat} {c n : Nat} {Lc : Nat → Nat} {Tc : Nat → Nat → Nat} {m p t : Nat} {V : Nat → Nat} {τ : ab_M} (h : CS ar ord c n Lc Tc m p t V σ) (f : ∀ z, z ≠ 0 → τ z = σ z) : CS ar ord c n Lc Tc m p t V τ := by
  obtain ⟨a1, a2, a3, a4, a5, a6, a7, a8⟩ := h
  exact ⟨fun k hk => by rw [f 38 (by decide)]; exact a1 k hk, a2, a3.mv (f 46 (by decide)) (f 47 (by decide)), fun h => (a4 h).mv (f 46 (by decide)) (f 47 (by decide)), fun k hk => by rw [f 48 (by decide)]; exact a5 k hk, by rw [f 45 (by decide)]; exact a6, a7, a8⟩
theorem c_find {m : Nat} {Lc : Nat → Nat} {Tc : Nat → Nat → Nat} {x : Int32} (har : ∀ j, j < 8 → arok (σ 2 j)) (hT : CT m Lc Tc σ) (hCA : CA σ)
    (kB : (x < 1 ∨ ¬ x ≤ 4) → Q (some (.inl (-1))) (ab_upd σ 45 6 0))
    (kF : ∀ w τ, 1 ≤ w → w ≤ 4 → x = nI w → cF (σ 2) Lc Tc m (fsp (σ 2) Lc Tc m w 1 0).2 τ → fD σ τ → Q (some (.inl (fsp (σ 2) Lc Tc m w 1 0).1)) τ) : evm mX7_find [.inr (.inr 0), .inl x] σ Q := by
  refine s_X7_find_0 (s_X4_countAnew_0 ⟨rfl, fun h => kB (Or.inl h), fun h1 => ⟨fun h4 => ?_, fun h => kB (Or.inr h)⟩⟩)
  obtain ⟨w, w1, w4, rfl⟩ := lo_n h1 h4
  have kk := fun τ => kF w τ w1 w4 rfl
  have loop : ∀ (d a t : Nat) (τ : ab_M) (o3 : Option ab_V), a + d = w + 1 → 1 ≤ a → CA τ → τ 45 6 = nI t → t ≤ 3000 → τ 0 8 = 0 → fD σ τ → fsp (σ 2) Lc Tc m d a t = fsp (σ 2) Lc Tc m w 1 0 → ev mX7_find 26 [some (.inr (.inr 0)), some (.inl (nI w)), some (.inl (nI a)), o3] [] τ Q := by
    intro d
    induction d with
    | zero =>
      intro a t τ o3 ha a1 ca h6 t3 h8 f e
      have e' : fsp (σ 2) Lc Tc m w 1 0 = (0, none) := e.symm
      rw [e'] at kk
      exact s_X7_find_26 ⟨fun _ => kk τ ⟨ca, h8⟩ f, fun h => absurd (nI_lt (by omega) (by omega)) h⟩
    | succ d ih =>
      intro a t τ o3 ha a1 ca h6 t3 h8 f e
      have a2 : τ 2 = σ 2 := f.1 2 (by omega) (by omega)
      have e1 : fsp (σ 2) Lc Tc m (d + 1) a t = (bif badB (σ 2) Lc Tc m a (fun _ => 0) then fsp (σ 2) Lc Tc m d (a + 1) t else if (wA (σ 2) Lc Tc m a t).1 = 1 then (nI a, some (a, (wA (σ 2) Lc Tc m a t).2)) else if (wA (σ 2) Lc Tc m a t).1 = 0 then fsp (σ 2) Lc Tc m d (a + 1) (wA (σ 2) Lc Tc m a t).2.2.1 else (-4, none)) := rfl
      rw [e] at e1
      refine s_X7_find_26 ⟨fun h => absurd h (nI_nlt (by omega) (by omega)), fun _ => ?_⟩
      refine begin_f (m := m) (Lc := Lc) (Tc := Tc) (t := t) a1 (by omega) (by rw [a2]; exact har) (hT.mv1 (fun z h1 h2 => f.1 z (by omega) (by omega))) ca h6 t3 (fun hb υ uca u6 fu => ⟨_, rfl, fun q => absurd q (by decide), fun _ => ⟨fun q => absurd q (by decide), fun _ => ?_⟩⟩) (fun hb υ uo u41 ucs fu => ⟨_, rfl, ?_⟩)
      · rw [a2] at hb
        rw [hb] at e1
        rw [nI_1]
        exact ih (a + 1) t υ _ (by omega) (by omega) uca u6 t3 (by rw [fu 0 (by omega)]; exact h8) (f.tr (fD.of fu)) e1.symm
      · rw [a2] at hb uo u41 ucs ⊢
        rw [hb] at e1
        have w0 : wA (σ 2) Lc Tc m a t = wsp (σ 2) (od (σ 2) a) (OL (σ 2) a).length a Lc Tc m 700000 1 t (fun _ => 0) := rfl
        have wr := wsp_res (ar := σ 2) (ord := od (σ 2) a) (c := (OL (σ 2) a).length) (n := a) (Lc := Lc) (Tc := Tc) (m := m) 700000 1 t (fun _ => 0)
        rw [← w0] at ucs wr ⊢
        have fu2 := f.tr (fD.of fu)
        have u8 : υ 0 8 = 0 := by rw [fu 0 (by omega)]; exact h8
        rcases wr with q | q | ⟨q, q2⟩
        · rw [q] at e1 ⊢
          have e2 : fsp (σ 2) Lc Tc m w 1 0 = fsp (σ 2) Lc Tc m d (a + 1) (wA (σ 2) Lc Tc m a t).2.2.1 := by rw [e1]; rfl
          refine ⟨fun x => absurd x (by decide), fun _ => ⟨fun x => absurd x (by decide), fun _ => ?_⟩⟩
          rw [nI_1]
          exact ih (a + 1) _ υ _ (by omega) (by omega) ucs.2.2.1 ucs.2.2.2.2.2.1 ucs.2.2.2.2.2.2.1 u8 fu2 e2.symm
        · rw [q] at e1 ⊢
          have e2 : fsp (σ 2) Lc Tc m w 1 0 = (-4, none) := by rw [e1]; rfl
          rw [e2] at kk
          exact ⟨fun _ => kk υ ⟨ucs.2.2.1, u8⟩ fu2, fun x => absurd rfl x⟩
        · rw [q] at e1 ⊢
          have e2 : fsp (σ 2) Lc Tc m w 1 0 = (nI a, some (a, (wA (σ 2) Lc Tc m a t).2)) := by rw [e1]; rfl
          rw [e2] at kk
          refine ⟨fun x => absurd x (by decide), fun _ => ⟨fun _ => ?_, fun x => absurd rfl x⟩⟩
          have g : ∀ z, z ≠ 0 → (ab_upd (ab_upd υ 0 8 (nI a)) 0 9 0) z = υ z := fun z hz => by rw [ab_upd_off _ _ hz, ab_upd_off _ _ hz]
          have pc := Nat.le_antisymm ucs.2.2.2.2.2.2.2 q2
          exact kk _ ⟨ucs.2.2.1.mv (g 46 (by decide)) (g 47 (by decide)), a1, by omega, by rw [ab_upd_eq, if_neg (by decide), ab_upd_same], ab_upd_same _ _ _ _, pc, uo.mv (fun z hz => g z (by omega)), fun k hk => by rw [g 41 (by decide)]; exact u41 k hk, ucs.mv0 g⟩ ((fu2.up (Or.inl rfl)).up (Or.inr rfl))
  have g45 : ∀ z, z ≠ 45 → (ab_upd σ 45 6 0) z = σ z := fun z hz => ab_upd_off _ _ hz
  refine loop w 1 0 _ _ (by omega) (by omega) ?_ ?_ (by omega) (ab_upd_same _ _ _ _) ((fD.of (fS.rf.up (by omega))).up (Or.inl rfl)) rfl
  · exact hCA.mv (by rw [ab_upd_off _ _ (by decide), ab_upd_off _ _ (by decide)]) (by rw [ab_upd_off _ _ (by decide), ab_upd_off _ _ (by decide)])
  · rw [ab_upd_off _ _ (by decide), ab_upd_same]
    rfl
end FC

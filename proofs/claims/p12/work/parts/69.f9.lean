/-! the reference's search returns -/
def EN (c : Nat) (σ : ab_M) : Prop := ∀ r, r < c → ∃ s i j, s < 8 ∧ i < 4 ∧ j < 4 ∧ σ 56 r = nI s ∧ σ 57 r = nI i ∧ σ 58 r = nI j
def fU (σ τ : ab_M) : Prop := (∀ z, z ≠ 50 → z ≠ 56 → z ≠ 57 → z ≠ 58 → τ z = σ z) ∧ ∀ t, t ≠ 8 → τ 50 t = σ 50 t
/-- how many of the first symbols are no constants -/
def wt (ar : Nat → Int32) : Nat → Nat
  | 0 => 0
  | a + 1 => wt ar a + if ar a = 0 then 0 else 1
theorem wt_le (ar : Nat → Int32) : ∀ a, wt ar a ≤ a := by
  intro a
  induction a with
  | zero => exact Nat.le_refl _
  | succ a ih =>
    show wt ar a + (if ar a = 0 then 0 else 1) ≤ a + 1
    split <;> omega
theorem wt_mono (ar : Nat → Int32) : ∀ d a, wt ar a ≤ wt ar (a + d) := by
  intro d
  induction d with
  | zero => exact fun a => Nat.le_refl _
  | succ d ih =>
    intro a
    have := ih a
    show wt ar a ≤ wt ar (a + d) + (if ar (a + d) = 0 then 0 else 1)
    omega
theorem wt_s {ar : Nat → Int32} {a : Nat} (h : ¬ ar a = 0) : wt ar (a + 1) = wt ar a + 1 := by
  show wt ar a + (if ar a = 0 then 0 else 1) = _
  rw [if_neg h]
theorem wt_z {ar : Nat → Int32} {a : Nat} (h : ar a = 0) : wt ar (a + 1) = wt ar a := by
  show wt ar a + (if ar a = 0 then 0 else 1) = _
  rw [if_pos h, Nat.add_zero]
def cnt (n M : Nat) : Nat → Nat
  | 0 => 0
  | k + 1 => cnt n M k + if (if k / n ≤ k % n then k % n else k / n) = M then 1 else 0
theorem cnt_le : ∀ n, n < 5 → ∀ M, M < 4 → ∀ k, k < 17 → (M < n ∧ k ≤ n * n → cnt n M k ≤ 2 * M + 1) := by decide +kernel
theorem dm : ∀ n, n < 5 → ∀ k, k < 16 → (1 ≤ n ∧ k < n * n → nI k / nI n = nI (k / n) ∧ nI k - nI k / nI n * nI n = nI (k % n) ∧ k / n < 4 ∧ k % n < 4) := by decide +kernel
theorem quad {M wa w8 z c b : Nat} (hM : M < 4) (hz : w8 ≤ 8) (h1 : wa + 1 ≤ w8) (hb : b ≤ 2 * M + 1) (h : c + w8 ≤ 8 + w8 * (M * M) + wa * (2 * M + 1) + b) : c ≤ 128 := by
  rcases (by omega : M = 0 ∨ M = 1 ∨ M = 2 ∨ M = 3) with rfl | rfl | rfl | rfl <;> omega
section LS
variable {σ : ab_M} {Q : Option ab_V → ab_M → Prop}
theorem pu_ok {c s i j : Nat} (hc : c < 128) (hs : s < 8) (hi : i < 4) (hj : j < 4) (e8 : σ 50 8 = nI c) (hE : EN c σ) (k : ∀ τ, τ 50 8 = nI (c + 1) → EN (c + 1) τ → fU σ τ → Q none τ) : evm mX8_put [.inr (.inr 50), .inl (nI s), .inl (nI i), .inl (nI j)] σ Q := by
  refine s_n_X8_put_0 ⟨by rw [e8]; exact inN hc (by decide), fun τ1 e1 => ?_⟩
  have a1 : τ1 50 8 = nI c := by rw [e1, ab_upd_off _ _ (by decide)]; exact e8
  refine ⟨by rw [a1]; exact inN hc (by decide), fun τ2 e2 => ?_⟩
  have a2 : τ2 50 8 = nI c := by rw [e2, ab_upd_off _ _ (by decide)]; exact a1
  refine ⟨by rw [a2]; exact inN hc (by decide), fun τ3 e3 τ4 e4 => ?_⟩
  have a3 : τ3 50 8 = nI c := by rw [e3, ab_upd_off _ _ (by decide)]; exact a2
  rw [e8, nI_clamp (by omega)] at e1
  rw [a1, nI_clamp (by omega)] at e2
  rw [a2, nI_clamp (by omega)] at e3
  refine k τ4 ?_ (fun r hr => ?_) ⟨fun z h1 h2 h3 h4 => ?_, fun t ht => ?_⟩
  · rw [e4, ab_upd_same, a3, nI_1]
  · have b6 : τ4 56 r = if r = c then nI s else σ 56 r := by
      rw [e4, ab_upd_off _ _ (by decide), e3, ab_upd_off _ _ (by decide), e2, ab_upd_off _ _ (by decide), e1, ab_upd_eq]
      simp
    have b7 : τ4 57 r = if r = c then nI i else σ 57 r := by
      rw [e4, ab_upd_off _ _ (by decide), e3, ab_upd_off _ _ (by decide), e2, ab_upd_eq, e1, ab_upd_off _ _ (by decide)]
      simp
    have b8 : τ4 58 r = if r = c then nI j else σ 58 r := by
      rw [e4, ab_upd_off _ _ (by decide), e3, ab_upd_eq, e2, ab_upd_off _ _ (by decide), e1, ab_upd_off _ _ (by decide)]
      simp
    rw [b6, b7, b8]
    by_cases e : r = c
    · rw [if_pos e, if_pos e, if_pos e]
      exact ⟨s, i, j, hs, hi, hj, rfl, rfl, rfl⟩
    · rw [if_neg e, if_neg e, if_neg e]
      exact hE r (by omega)
  · rw [e4, ab_upd_off _ _ h1, e3, ab_upd_off _ _ h4, e2, ab_upd_off _ _ h3, e1, ab_upd_off _ _ h2]
  · rw [e4, ab_upd_eq, if_neg (by omega), e3, ab_upd_off _ _ (by decide), e2, ab_upd_off _ _ (by decide), e1, ab_upd_off _ _ (by decide)]
def fLs (σ τ : ab_M) : Prop := (∀ z, z ≠ 50 → z ≠ 55 → z ≠ 56 → z ≠ 57 → z ≠ 58 → τ z = σ z) ∧ ∀ t, t ≠ 7 → t ≠ 8 → τ 50 t = σ 50 t
theorem fLs.tr {τ υ : ab_M} (h1 : fLs σ τ) (h2 : fU τ υ) : fLs σ υ := ⟨fun z a b c d e => (h2.1 z a c d e).trans (h1.1 z a b c d e), fun t a b => (h2.2 t b).trans (h1.2 t a b)⟩
theorem ls2 {n : Nat} (n1 : 1 ≤ n) (n4 : n ≤ 4) (k : ∀ c τ, c ≤ 128 → τ 50 7 = nI n → τ 50 8 = nI c → EN c τ → VI τ → fLs σ τ → Q none τ) : evm mX8_list [.inr (.inr 50), .inl (nI n)] σ Q := by
  obtain ⟨ar, har⟩ : ∃ ar, ar = σ 51 := ⟨_, rfl⟩
  have w8 := wt_le ar 8
  have ea : ∀ τ, fLs σ τ → ∀ a, a < 8 → τ 51 (nI a).toNatClampNeg = ar a := fun τ f a ha => by rw [nI_clamp (by omega), f.1 51 (by decide) (by decide) (by decide) (by decide) (by decide), har]
  have n7 : ∀ {τ υ}, τ 50 7 = nI n → fU τ υ → υ 50 7 = nI n := fun h f => by rw [f.2 7 (by decide)]; exact h
  have fill : ∀ (d a c : Nat) (τ : ab_M) (o3 o4 o5 o6 : Option ab_V), a + d = 128 → c ≤ 128 → τ 50 7 = nI n → τ 50 8 = nI c → EN c τ → (∀ j, j < a → τ 55 j = -1) → fLs σ τ → ev mX8_list 167 [some (.inr (.inr 50)), some (.inl (nI n)), some (.inl (nI a)), o3, o4, o5, o6] [] τ Q := by
    intro d
    induction d with
    | zero =>
      intro a c τ o3 o4 o5 o6 ha hc h7 h8 hE hv f
      exact s_X8_list_167 ⟨fun _ => k c τ hc h7 h8 hE (fun j hj => by rw [hv j (by omega)]; decide) f, fun q => absurd (nI_le (a := 128) (by omega) (by omega)) q⟩
    | succ d ih =>
      intro a c τ o3 o4 o5 o6 ha hc h7 h8 hE hv f
      refine s_X8_list_167 ⟨fun q => absurd q (nI_ge (b := 128) (by omega) (by decide)), fun _ => ⟨inN (by omega) (by decide), ?_⟩⟩
      rw [nI_1, nI_clamp (by omega)]
      refine ih (a + 1) c _ _ _ _ _ (by omega) hc (by rw [ab_upd_off _ _ (by decide)]; exact h7) (by rw [ab_upd_off _ _ (by decide)]; exact h8) (fun r hr => by rw [ab_upd_off _ _ (by decide), ab_upd_off _ _ (by decide), ab_upd_off _ _ (by decide)]; exact hE r hr) (fun j hj => ?_) ⟨fun z a b c d e => by rw [ab_upd_off _ _ b]; exact f.1 z a b c d e, fun t a b => by rw [ab_upd_off _ _ (by decide)]; exact f.2 t a b⟩
      rw [ab_upd_eq]
      by_cases e : j = a
      · rw [if_pos ⟨rfl, e⟩]
      · rw [if_neg (fun q => e q.2)]
        exact hv j (by omega)
  have outer : ∀ (d M c : Nat) (τ : ab_M) (o3 o4 o5 o6 : Option ab_V), M + d = n → c + wt ar 8 ≤ 8 + wt ar 8 * (M * M) → τ 50 7 = nI n → τ 50 8 = nI c → EN c τ → fLs σ τ → ev mX8_list 42 [some (.inr (.inr 50)), some (.inl (nI n)), some (.inl (nI M)), o3, o4, o5, o6] [] τ Q := by
    intro d
    induction d with
    | zero =>
      intro M c τ o3 o4 o5 o6 hM hc h7 h8 hE f
      refine s_X8_list_42 ⟨fun _ => fill 128 0 c τ _ _ _ _ (by omega) ?_ h7 h8 hE (fun j hj => by omega) f, fun q => absurd (by rw [h7]; exact nI_le (by omega) (by omega)) q⟩
      rcases (by omega : M = 1 ∨ M = 2 ∨ M = 3 ∨ M = 4) with rfl | rfl | rfl | rfl <;> omega
    | succ d ih =>
      intro M c τ o3 o4 o5 o6 hM hc h7 h8 hE f
      refine s_X8_list_42 ⟨fun q => ?_, fun _ => ?_⟩
      · rw [h7] at q
        exact absurd ((nI_leI (by omega) (by omega)).mp q) (by omega)
      have mid : ∀ (e a c : Nat) (τ : ab_M) (o4 o5 o6 : Option ab_V), a + e = 8 → c + wt ar 8 ≤ 8 + wt ar 8 * (M * M) + wt ar a * (2 * M + 1) → τ 50 7 = nI n → τ 50 8 = nI c → EN c τ → fLs σ τ → ev mX8_list 52 [some (.inr (.inr 50)), some (.inl (nI n)), some (.inl (nI M)), some (.inl (nI a)), o4, o5, o6] [] τ Q := by
        intro e
        induction e with
        | zero =>
          intro a c τ o4 o5 o6 ha hc h7 h8 hE f
          refine s_X8_list_52 ⟨fun _ => ?_, fun q => absurd (nI_le (a := 8) (by omega) (by omega)) q⟩
          rw [nI_1]
          have a8 : a = 8 := by omega
          subst a8
          refine ih (M + 1) c τ _ _ _ _ (by omega) ?_ h7 h8 hE f
          rcases (by omega : M = 0 ∨ M = 1 ∨ M = 2 ∨ M = 3) with rfl | rfl | rfl | rfl <;> omega
        | succ e ihe =>
          intro a c τ o4 o5 o6 ha hc h7 h8 hE f
          have wm := wt_mono ar 1 a
          have wm2 := wt_mono ar e (a + 1)
          rw [show a + 1 + e = 8 from by omega] at wm2
          have inn : ∀ (g b c : Nat) (τ : ab_M) (o5 o6 : Option ab_V), b + g = n * n → ar a = 2 → c + wt ar 8 ≤ 8 + wt ar 8 * (M * M) + wt ar a * (2 * M + 1) + cnt n M b → τ 50 7 = nI n → τ 50 8 = nI c → EN c τ → fLs σ τ → ev mX8_list 78 [some (.inr (.inr 50)), some (.inl (nI n)), some (.inl (nI M)), some (.inl (nI a)), some (.inl (nI b)), o5, o6] [] τ Q := by
            have nn : n * n ≤ 16 := Nat.mul_le_mul n4 n4
            intro g
            induction g with
            | zero =>
              intro b c τ o5 o6 hb a2 hc h7 h8 hE f
              have cl := cnt_le n (by omega) M (by omega) b (by omega) ⟨by omega, by omega⟩
              have ws := wt_s (ar := ar) (a := a) (by rw [a2]; decide)
              refine s_X8_list_78 ⟨fun _ => ?_, fun q => absurd (by rw [h7, pk_mul]; exact nI_le (by omega) (by omega)) q⟩
              rw [nI_1]
              refine ihe (a + 1) c τ _ _ _ (by omega) ?_ h7 h8 hE f
              rw [ws]
              rcases (by omega : M = 0 ∨ M = 1 ∨ M = 2 ∨ M = 3) with rfl | rfl | rfl | rfl <;> omega
            | succ g ihg =>
              intro b c τ o5 o6 hb a2 hc h7 h8 hE f
              obtain ⟨d1, d2, d3, d5⟩ := dm n (by omega) b (by omega) ⟨n1, by omega⟩
              have cl := cnt_le n (by omega) M (by omega) (b + 1) (by omega) ⟨by omega, by omega⟩
              have ws := wt_s (ar := ar) (a := a) (by rw [a2]; decide)
              have n0 : ¬ nI n = 0 := nI_ne0 n1 (by omega)
              refine s_X8_list_78 ⟨fun q => ?_, fun _ => ⟨in8 (by omega), fun _ => ?_, fun q => absurd (by rw [ea τ f a (by omega)]; exact a2) q⟩⟩
              · rw [h7, pk_mul] at q
                exact absurd ((nI_leI (by omega) (by omega)).mp q) (by omega)
              · rw [h7, d2, d1, nI_1]
                have put : (if b / n ≤ b % n then b % n else b / n) = M → evm mX8_put [.inr (.inr 50), .inl (nI a), .inl (nI (b / n)), .inl (nI (b % n))] τ (fun v τ1 => v = none ∧ ev mX8_list 78 [some (.inr (.inr 50)), some (.inl (nI n)), some (.inl (nI M)), some (.inl (nI a)), some (.inl (nI (b + 1))), some (.inl (nI (b / n))), some (.inl (nI (b % n)))] [] τ1 Q) := by
                  intro hq
                  have cs : cnt n M (b + 1) = cnt n M b + 1 := by
                    show cnt n M b + (if (if b / n ≤ b % n then b % n else b / n) = M then 1 else 0) = _
                    rw [if_pos hq]
                  have c128 : c + 1 ≤ 128 := quad (M := M) (wa := wt ar a) (w8 := wt ar 8) (z := 0) (b := cnt n M (b + 1)) (by omega) w8 (by omega) cl (by omega)
                  refine pu_ok (by omega) (by omega) d3 d5 h8 hE (fun υ u8 uE fu => ⟨rfl, ihg (b + 1) (c + 1) υ _ _ (by omega) a2 (by omega) (n7 h7 fu) u8 uE (f.tr fu)⟩)
                have skip : ev mX8_list 78 [some (.inr (.inr 50)), some (.inl (nI n)), some (.inl (nI M)), some (.inl (nI a)), some (.inl (nI (b + 1))), some (.inl (nI (b / n))), some (.inl (nI (b % n)))] [] τ Q := by
                  refine ihg (b + 1) c τ _ _ (by omega) a2 ?_ h7 h8 hE f
                  have : cnt n M b ≤ cnt n M (b + 1) := Nat.le_add_right _ _
                  omega
                have l1 : nI (b / n) ≤ nI (b % n) ↔ b / n ≤ b % n := nI_leI (by omega) (by omega)
                refine ⟨n0, n0, fun q => ⟨fun q2 => put ?_, fun _ => skip⟩, fun q => ⟨fun q2 => put ?_, fun _ => skip⟩⟩
                · rw [if_pos (l1.mp q)]
                  exact (nI_eq (by omega) (by omega)).mp q2
                · rw [if_neg (fun q3 => q (l1.mpr q3))]
                  exact (nI_eq (by omega) (by omega)).mp q2
          have out : ∀ (c : Nat) (τ : ab_M) (o5 o6 : Option ab_V), ¬ ar a = 2 → c + wt ar 8 ≤ 8 + wt ar 8 * (M * M) + wt ar (a + 1) * (2 * M + 1) → τ 50 7 = nI n → τ 50 8 = nI c → EN c τ → fLs σ τ → ev mX8_list 78 [some (.inr (.inr 50)), some (.inl (nI n)), some (.inl (nI M)), some (.inl (nI a)), some (.inl 0), o5, o6] [] τ Q := by
            intro c τ o5 o6 a2 hc h7 h8 hE f
            have fin : ∀ o4, ev mX8_list 52 [some (.inr (.inr 50)), some (.inl (nI n)), some (.inl (nI M)), some (.inl (nI a + 1)), o4, o5, o6] [] τ Q := fun o4 => by
              rw [nI_1]
              exact ihe (a + 1) c τ _ _ _ (by omega) hc h7 h8 hE f
            exact s_X8_list_78 ⟨fun _ => fin _, fun _ => ⟨in8 (by omega), fun q => absurd (by rw [← ea τ f a (by omega)]; exact q) a2, fun _ => fin _⟩⟩
          refine s_X8_list_52 ⟨fun q => absurd q (nI_ge (b := 8) (by omega) (by decide)), fun _ => ⟨in8 (by omega), fun q => ?_, fun q => ?_⟩⟩
          · rw [ea τ f a (by omega)] at q
            have ws := wt_s (ar := ar) (a := a) (by rw [q]; decide)
            have hc1 : c + 1 + wt ar 8 ≤ 8 + wt ar 8 * (M * M) + wt ar a * (2 * M + 1) + (2 * M + 1) := by omega
            have c128 : c + 1 ≤ 128 := quad (M := M) (wa := wt ar a) (w8 := wt ar 8) (z := 0) (b := 2 * M + 1) (by omega) w8 (by omega) (Nat.le_refl _) hc1
            refine pu_ok (i := M) (j := 0) (by omega) (by omega) (by omega) (by omega) h8 hE (fun υ u8 uE fu => ⟨rfl, out (c + 1) υ _ _ (by rw [q]; decide) ?_ (n7 h7 fu) u8 uE (f.tr fu)⟩)
            rw [ws, Nat.add_mul]
            omega
          · by_cases a2 : ar a = 2
            · exact inn (n * n) 0 c τ _ _ (by omega) a2 (Nat.le_trans hc (Nat.le_add_right _ _)) h7 h8 hE f
            · refine out c τ _ _ a2 (Nat.le_trans hc (Nat.add_le_add_left (Nat.mul_le_mul_right _ wm) _)) h7 h8 hE f
      exact mid 8 0 c τ _ _ _ (by omega) (Nat.le_trans hc (Nat.le_add_right _ _)) h7 h8 hE f
  have first : ∀ (d a c : Nat) (τ : ab_M) (o3 o4 o5 o6 : Option ab_V), a + d = 8 → c + wt ar a ≤ a → τ 50 7 = nI n → τ 50 8 = nI c → EN c τ → fLs σ τ → ev mX8_list 12 [some (.inr (.inr 50)), some (.inl (nI n)), some (.inl (nI a)), o3, o4, o5, o6] [] τ Q := by
    intro d
    induction d with
    | zero =>
      intro a c τ o3 o4 o5 o6 ha hc h7 h8 hE f
      have a8 : a = 8 := by omega
      subst a8
      exact s_X8_list_12 ⟨fun _ => outer n 0 c τ _ _ _ _ (by omega) (by omega) h7 h8 hE f, fun q => absurd (nI_le (a := 8) (by omega) (by omega)) q⟩
    | succ d ih =>
      intro a c τ o3 o4 o5 o6 ha hc h7 h8 hE f
      refine s_X8_list_12 ⟨fun q => absurd q (nI_ge (b := 8) (by omega) (by decide)), fun _ => ⟨in8 (by omega), fun q => ?_, fun q => ?_⟩⟩
      · rw [ea τ f a (by omega)] at q
        refine pu_ok (i := 0) (j := 0) (by omega) (by omega) (by omega) (by omega) h8 hE (fun υ u8 uE fu => ⟨rfl, ?_⟩)
        rw [nI_1]
        exact ih (a + 1) (c + 1) υ _ _ _ _ (by omega) (by rw [wt_z q]; omega) (n7 h7 fu) u8 uE (f.tr fu)
      · rw [ea τ f a (by omega)] at q
        rw [nI_1]
        exact ih (a + 1) c τ _ _ _ _ (by omega) (by rw [wt_s q]; omega) h7 h8 hE f
  refine s_X8_list_0 (first 8 0 0 _ _ _ _ _ (by omega) (by show 0 + 0 ≤ 0; omega) (by rw [ab_upd_eq, if_neg (by decide), ab_upd_same]) (ab_upd_same _ _ _ _) (fun r hr => by omega) ⟨fun z a _ _ _ _ => by rw [ab_upd_off _ _ a, ab_upd_off _ _ a], fun t a b => by rw [ab_upd_eq, if_neg (by omega), ab_upd_eq, if_neg (by omega)]⟩)
end LS

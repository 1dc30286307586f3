theorem dm3 {s a b : Nat} (ha : a < 4) (hb : b < 4) : (16 * s + 4 * a + b) % 16 / 4 = a := by
  have e : (16 * s + 4 * a + b) % 16 = 4 * a + b := by omega
  rw [e]
  omega
def rwR (g a s : Nat) : Nat → Nat → List Nat
  | 0, _ => []
  | e + 1, b => (if a + 1 = g ∨ b + 1 = g then [16 * s + 4 * a + b] else []) ++ rwR g a s e (b + 1)
def rsR (g s : Nat) : Nat → Nat → List Nat
  | 0, _ => []
  | d + 1, a => rwR g a s g 0 ++ rsR g s d (a + 1)
theorem rsR_prs {g s : Nat} (hg : g ≤ 4) : rsR g s g 0 = (prs g).map (fun q => 16 * s + q) := by
  rcases (by omega : g = 0 ∨ g = 1 ∨ g = 2 ∨ g = 3 ∨ g = 4) with rfl | rfl | rfl | rfl | rfl
  · rfl
  · rfl
  · rfl
  · rfl
  · rfl
def sR (ar : Nat → Int32) (g : Nat) : Nat → Nat → List Nat
  | 0, _ => []
  | d + 1, s => seg (ar s) g s ++ sR ar g d (s + 1)
theorem sR_g {ar : Nat → Int32} {g : Nat} : sR ar g 8 0 = OLg ar g := rfl
def gR (ar : Nat → Int32) : Nat → Nat → List Nat
  | 0, _ => []
  | d + 1, g => OLg ar g ++ gR ar d (g + 1)
theorem gR_OL {ar : Nat → Int32} {n : Nat} (n4 : n ≤ 4) : gR ar (n + 1) 0 = OL ar n := by
  rcases (by omega : n = 0 ∨ n = 1 ∨ n = 2 ∨ n = 3 ∨ n = 4) with rfl | rfl | rfl | rfl | rfl <;> rfl
section LG
variable {σ : ab_M} {Q : Option ab_V → ab_M → Prop} {ar : Nat → Int32} {F : List Nat}
theorem lp_f {s g : Nat} {l T : List Nat} (hs : s < 8) (hg : g ≤ 4) (ha : ar s = 2) (h128 : F.length ≤ 128) (hF : l ++ ((prs g).map (fun q => 16 * s + q) ++ T) = F) (h : OS ar l σ) (k : ∀ l' τ, l' ++ T = F → OS ar l' τ → fO σ τ → Q none τ) : evm mX6_layPairs [.inr (.inr 37), .inl (nI s), .inl (dn g)] σ Q := by
  rw [← rsR_prs hg] at hF
  have outer : ∀ (d a : Nat) (l : List Nat) (τ : ab_M) (o4 : Option ab_V), a + d = g → l ++ (rsR g s d a ++ T) = F → OS ar l τ → fO σ τ → ev mX6_layPairs 2 [some (.inr (.inr 37)), some (.inl (nI s)), some (.inl (dn g)), some (.inl (nI a)), o4] [] τ Q := by
    intro d
    induction d with
    | zero =>
      intro a l τ o4 hd hl ho f
      exact s_X6_layPairs_2 ⟨fun _ => k l τ hl ho f, fun h2 => absurd ((dn_lt (by omega) (by omega)).mpr (by omega)) h2⟩
    | succ d ih =>
      intro a l τ o4 hd hl ho f
      refine s_X6_layPairs_2 ⟨fun h2 => absurd ((dn_lt (by omega) (by omega)).mp h2) (by omega), fun _ => ?_⟩
      have inner : ∀ (e b : Nat) (l : List Nat) (τ : ab_M), b + e = g → l ++ (rwR g a s e b ++ (rsR g s d (a + 1) ++ T)) = F → OS ar l τ → fO σ τ → ev mX6_layPairs 10 [some (.inr (.inr 37)), some (.inl (nI s)), some (.inl (dn g)), some (.inl (nI a)), some (.inl (nI b))] [] τ Q := by
        intro e
        induction e with
        | zero =>
          intro b l τ hb hl ho f
          refine s_X6_layPairs_10 ⟨fun _ => ?_, fun h2 => absurd ((dn_lt (by omega) (by omega)).mpr (by omega)) h2⟩
          rw [nI_1]
          exact ih (a + 1) l τ _ (by omega) hl ho f
        | succ e ihb =>
          intro b l τ hb hl ho f
          have hl' : l ++ (((if a + 1 = g ∨ b + 1 = g then [16 * s + 4 * a + b] else []) ++ rwR g a s e (b + 1)) ++ (rsR g s d (a + 1) ++ T)) = F := hl
          refine s_X6_layPairs_10 ⟨fun h2 => absurd ((dn_lt (by omega) (by omega)).mp h2) (by omega), fun _ => ?_⟩
          rw [nI_1]
          have ea : nI a = dn g ↔ a + 1 = g := by
            rw [← dn_s]
            constructor
            · intro q
              have h1 := (dn_le2 (a := a + 1) (b := g) (by omega) (by omega)).mp (by rw [q]; exact Int32.le_refl _)
              have h2 := (dn_le2 (a := g) (b := a + 1) (by omega) (by omega)).mp (by rw [q]; exact Int32.le_refl _)
              omega
            · intro q; rw [q]
          have eb : nI b = dn g ↔ b + 1 = g := by
            rw [← dn_s]
            constructor
            · intro q
              have h1 := (dn_le2 (a := b + 1) (b := g) (by omega) (by omega)).mp (by rw [q]; exact Int32.le_refl _)
              have h2 := (dn_le2 (a := g) (b := b + 1) (by omega) (by omega)).mp (by rw [q]; exact Int32.le_refl _)
              omega
            · intro q; rw [q]
          have go : (a + 1 = g ∨ b + 1 = g) → evm mX6_cellOf [.inl (nI s), .inl (nI a), .inl (nI b)] τ (fun v τ1 => ∃ r2 : Int32, v = some (.inl r2) ∧ evm mX6_layCell [.inr (.inr 37), .inl r2, .inl (dn g)] τ1 (fun v τ3 => v = none ∧ ev mX6_layPairs 10 [some (.inr (.inr 37)), some (.inl (nI s)), some (.inl (dn g)), some (.inl (nI a)), some (.inl (nI (b + 1)))] [] τ3 Q)) := by
            intro hq
            rw [if_pos hq] at hl'
            refine s_X6_cellOf_0 ⟨_, rfl, ?_⟩
            rw [cel_n]
            have len : l.length < 128 := by
              have := congrArg List.length hl'
              simp at this
              omega
            have gc : gaC ar (16 * s + 4 * a + b) = g := by
              unfold gaC
              rw [show (16 * s + 4 * a + b) / 16 = s from by omega, show (16 * s + 4 * a + b) % 16 / 4 = a from dm3 (by omega) (by omega), show (16 * s + 4 * a + b) % 4 = b from by omega, ha, if_neg (by decide), if_pos rfl]
              omega
            refine lc_f len (by omega) gc ho (fun υ uo fu => ⟨rfl, ihb (b + 1) _ υ (by omega) ?_ uo (f.tr fu)⟩)
            rw [← hl']
            simp
          refine ⟨fun q => go (Or.inl (ea.mp q)), fun q1 => ⟨fun q => go (Or.inr (eb.mp q)), fun q2 => ?_⟩⟩
          rw [if_neg (fun x => x.elim (fun y => q1 (ea.mpr y)) (fun y => q2 (eb.mpr y)))] at hl'
          exact ihb (b + 1) l τ (by omega) hl' ho f
      refine inner g 0 l τ (by omega) ?_ ho f
      rw [← hl]
      show l ++ (rwR g a s g 0 ++ (rsR g s d (a + 1) ++ T)) = l ++ ((rwR g a s g 0 ++ rsR g s d (a + 1)) ++ T)
      simp
  exact s_X6_layPairs_0 (outer g 0 l σ _ (by omega) hF h fO.rf)
theorem lcs_f {s g : Nat} {l T : List Nat} (hs : s < 8) (hg : g ≤ 4) (hr : arok (ar s)) (h128 : F.length ≤ 128) (hF : l ++ (seg (ar s) g s ++ T) = F) (h : OS ar l σ) (k : ∀ l' τ, l' ++ T = F → OS ar l' τ → fO σ τ → Q none τ) : evm mX6_layCells [.inr (.inr 37), .inl (nI s), .inl (ar s), .inl (dn g)] σ Q := by
  have d1 := dn_m1 hg
  have len : ∀ a (R : List Nat), l ++ (a :: R) = F → l.length < 128 := fun a R e => by
    have := congrArg List.length e
    simp at this
    omega
  unfold seg at hF
  refine s_X6_layCells_0 ?_
  rcases hr with e | e | e | e
  · rw [e] at hF ⊢
    rw [if_neg (by decide), if_neg (by decide), if_neg (by decide)] at hF
    have K := k l σ hF h fO.rf
    exact ⟨fun q => absurd q (by decide), fun _ => ⟨fun q => absurd q (by decide), fun _ => ⟨fun q => absurd q (by decide), fun _ => K⟩⟩⟩
  · have e' := e
    rw [e] at hF ⊢
    rw [if_pos rfl] at hF
    refine ⟨fun _ => ⟨fun q => ?_, fun q => ?_⟩, fun q => absurd rfl q⟩
    · have g0 := d1.mp q
      rw [if_pos g0] at hF
      refine s_X6_cellOf_0 ⟨_, rfl, ?_⟩
      rw [show (nI s * 4 + 0) * 4 + 0 = nI (16 * s + 4 * 0 + 0) from cel_n (a := 0) (b := 0)]
      have gc : gaC ar (16 * s + 4 * 0 + 0) = g := by
        unfold gaC
        rw [show (16 * s + 4 * 0 + 0) / 16 = s from by omega, e', if_neg (by decide), if_neg (by decide)]
        omega
      refine lc_f (len _ _ hF) (by omega) gc h (fun υ uo fu => ⟨rfl, fun q => absurd q (by decide), fun _ => ⟨fun q => absurd q (by decide), fun _ => k _ υ ?_ uo fu⟩⟩)
      rw [← hF]
      simp
    · rw [if_neg (fun x => q (d1.mpr x))] at hF
      have K := k l σ hF h fO.rf
      exact ⟨fun q => absurd q (by decide), fun _ => ⟨fun q => absurd q (by decide), fun _ => K⟩⟩
  · have e' := e
    rw [e] at hF ⊢
    rw [if_neg (by decide), if_pos rfl] at hF
    refine ⟨fun q => absurd q (by decide), fun _ => ⟨fun _ => ⟨fun q => ?_, fun q => ?_⟩, fun q => absurd rfl q⟩⟩
    · rw [if_pos (d1.mp q)] at hF
      exact ⟨fun q => absurd q (by decide), fun _ => k l σ hF h fO.rf⟩
    · have g0 : ¬ g = 0 := fun x => q (d1.mpr x)
      rw [if_neg g0] at hF
      refine s_X6_cellOf_0 ⟨_, rfl, ?_⟩
      rw [dn_pos g0, show (nI s * 4 + nI (g - 1)) * 4 + 0 = nI (16 * s + 4 * (g - 1) + 0) from cel_n (b := 0), ← dn_pos g0]
      have gc : gaC ar (16 * s + 4 * (g - 1) + 0) = g := by
        unfold gaC
        rw [show (16 * s + 4 * (g - 1) + 0) / 16 = s from by omega, e', if_pos rfl]
        omega
      refine lc_f (len _ _ hF) (by omega) gc h (fun υ uo fu => ⟨rfl, fun q => absurd q (by decide), fun _ => k _ υ ?_ uo fu⟩)
      rw [← hF]
      simp
  · have e' := e
    rw [e] at hF ⊢
    rw [if_neg (by decide), if_neg (by decide), if_pos rfl] at hF
    exact ⟨fun q => absurd q (by decide), fun _ => ⟨fun q => absurd q (by decide), fun _ => ⟨fun _ => lp_f hs hg e' h128 hF h (fun l' τ a b c => ⟨rfl, k l' τ a b c⟩), fun q => absurd rfl q⟩⟩⟩
theorem lay_f {n : Nat} (n4 : n ≤ 4) (har : ∀ j, j < 8 → arok (σ 2 j)) (k : ∀ τ, OS (σ 2) (OL (σ 2) n) τ → τ 37 4 = nI n → (∀ j, j < 128 → τ 38 j = -1) → fY σ τ → Q none τ) : evm mX6_lay [.inr (.inr 37), .inl (nI n), .inr (.inr 1)] σ Q := by
  have h128 := OL_len (ar := σ 2) n4
  refine s_X6_lay_0 (fl_ok (n := 128) rfl (by decide) (fun τ h1 hf => ⟨rfl, ?_⟩))
  have t4 : τ 37 4 = nI n := by rw [h1 37 (by decide), ab_upd_eq, if_neg (by decide), ab_upd_same]
  have o0 : OS (σ 2) [] τ := ⟨by rw [h1 37 (by decide), ab_upd_same]; rfl, fun k hk => by simp at hk⟩
  have f0 : ∀ z, (z < 37 ∨ 42 ≤ z) → τ z = σ z := fun z hz => by rw [h1 z (by omega), ab_upd_off _ _ (by omega), ab_upd_off _ _ (by omega)]
  have outer : ∀ (d g : Nat) (x3 : Int32) (l : List Nat) (υ : ab_M) (o4 : Option ab_V), g + d = n + 1 → x3 = dn g → l ++ gR (σ 2) d g = OL (σ 2) n → OS (σ 2) l υ → fO τ υ → ev mX6_lay 20 [some (.inr (.inr 37)), some (.inl (nI n)), some (.inr (.inr 1)), some (.inl x3), o4] [] υ Q := by
    intro d
    induction d with
    | zero =>
      intro g x3 l υ o4 hg hx hl ho f
      subst hx
      have el : l = OL (σ 2) n := by rw [← hl]; simp [gR]
      refine s_X6_lay_20 ⟨fun _ => k υ (by rw [← el]; exact ho) (by rw [f.2]; exact t4) (fun j hj => by rw [f.1 38 (by decide) (by decide) (by decide) (by decide)]; exact hf j hj) (fun z hz => by rw [f.1 z (by omega) (by omega) (by omega) (by omega)]; exact f0 z hz), fun h2 => absurd ((dn_le (by omega) (by omega)).mpr (by omega)) h2⟩
    | succ d ih =>
      intro g x3 l υ o4 hg hx hl ho f
      subst hx
      refine s_X6_lay_20 ⟨fun h2 => absurd ((dn_le (by omega) (by omega)).mp h2) (by omega), fun _ => ?_⟩
      have inner : ∀ (e a : Nat) (l : List Nat) (υ : ab_M), a + e = 8 → l ++ (sR (σ 2) g e a ++ gR (σ 2) d (g + 1)) = OL (σ 2) n → OS (σ 2) l υ → fO τ υ → ev mX6_lay 28 [some (.inr (.inr 37)), some (.inl (nI n)), some (.inr (.inr 1)), some (.inl (dn g)), some (.inl (nI a))] [] υ Q := by
        intro e
        induction e with
        | zero =>
          intro a l υ ha hl ho f
          exact s_X6_lay_28 ⟨fun _ => ih (g + 1) _ l υ _ (by omega) (dn_1 g) hl ho f, fun h2 => absurd (nI_le (a := 8) (by omega) (by omega)) h2⟩
        | succ e ihe =>
          intro a l υ ha hl ho f
          refine s_X6_lay_28 ⟨fun h2 => absurd h2 (nI_ge (b := 8) (by omega) (by decide)), fun _ => ?_⟩
          have a2 : υ 2 = σ 2 := by rw [f.1 2 (by decide) (by decide) (by decide) (by decide)]; exact f0 2 (by omega)
          refine s_X5_arityOf_0 ⟨fun q => absurd q (nI_pos (by omega)), fun _ => ⟨fun _ => ⟨in8 (by omega), _, rfl, ?_⟩, fun q => absurd ((nI_ltI (b := 8) (by omega) (by decide)).mpr (by omega)) q⟩⟩
          rw [nI_clamp (by omega), a2]
          have hl2 : l ++ (seg (σ 2 a) g a ++ (sR (σ 2) g e (a + 1) ++ gR (σ 2) d (g + 1))) = OL (σ 2) n := by
            rw [← hl]
            show _ = l ++ ((seg (σ 2 a) g a ++ sR (σ 2) g e (a + 1)) ++ gR (σ 2) d (g + 1))
            simp
          refine lcs_f (by omega) (by omega) (har a (by omega)) h128 hl2 ho (fun l' ω e1 e2 e3 => ⟨rfl, ?_⟩)
          rw [nI_1]
          exact ihe (a + 1) l' ω (by omega) e1 e2 (f.tr e3)
      exact inner 8 0 l υ (by omega) hl ho f
  exact outer (n + 1) 0 (-1) [] τ _ (by omega) rfl (by rw [gR_OL n4]; rfl) o0 fO.rf
end LG

/-! the reference lists the cells in that order -/
def OSr (l : List Nat) (τ : ab_M) : Prop := τ 50 8 = nI l.length ∧ ∀ k, k < l.length → τ 56 k = nI (l.getD k 0 / 16) ∧ τ 57 k = nI (l.getD k 0 % 16 / 4) ∧ τ 58 k = nI (l.getD k 0 % 4)
def kR (n M a : Nat) : Nat → Nat → List Nat
  | 0, _ => []
  | e + 1, b => (if (if b / n ≤ b % n then b % n else b / n) = M then [16 * a + 4 * (b / n) + b % n] else []) ++ kR n M a e (b + 1)
theorem kR_prs {n M a : Nat} (n4 : n ≤ 4) (hM : M < n) : kR n M a (n * n) 0 = (prs (M + 1)).map (fun q => 16 * a + q) := by
  rcases (by omega : (n = 1 ∧ M = 0) ∨ (n = 2 ∧ M = 0) ∨ (n = 2 ∧ M = 1) ∨ (n = 3 ∧ M = 0) ∨ (n = 3 ∧ M = 1) ∨ (n = 3 ∧ M = 2) ∨ (n = 4 ∧ M = 0) ∨ (n = 4 ∧ M = 1) ∨ (n = 4 ∧ M = 2) ∨ (n = 4 ∧ M = 3)) with ⟨rfl, rfl⟩ | ⟨rfl, rfl⟩ | ⟨rfl, rfl⟩ | ⟨rfl, rfl⟩ | ⟨rfl, rfl⟩ | ⟨rfl, rfl⟩ | ⟨rfl, rfl⟩ | ⟨rfl, rfl⟩ | ⟨rfl, rfl⟩ | ⟨rfl, rfl⟩ <;> rfl
theorem seg_0 (x : Int32) (s : Nat) : seg x 0 s = if x = 0 then [16 * s] else [] := by
  unfold seg
  split
  · rfl
  · split
    · rfl
    · split
      · rfl
      · rfl
section LR
variable {σ : ab_M} {Q : Option ab_V → ab_M → Prop} {F : List Nat}
theorem pu_g {l : List Nat} {s i j : Nat} (hl : l.length < 128) (hs : s < 8) (hi : i < 4) (hj : j < 4) (h : OSr l σ) (k : ∀ τ, OSr (l ++ [16 * s + 4 * i + j]) τ → fU σ τ → Q none τ) : evm mX8_put [.inr (.inr 50), .inl (nI s), .inl (nI i), .inl (nI j)] σ Q := by
  obtain ⟨e8, hE⟩ := h
  refine s_n_X8_put_0 ⟨by rw [e8]; exact inN hl (by decide), fun τ1 e1 => ?_⟩
  have a1 : τ1 50 8 = nI l.length := by rw [e1, ab_upd_off _ _ (by decide)]; exact e8
  refine ⟨by rw [a1]; exact inN hl (by decide), fun τ2 e2 => ?_⟩
  have a2 : τ2 50 8 = nI l.length := by rw [e2, ab_upd_off _ _ (by decide)]; exact a1
  refine ⟨by rw [a2]; exact inN hl (by decide), fun τ3 e3 τ4 e4 => ?_⟩
  have a3 : τ3 50 8 = nI l.length := by rw [e3, ab_upd_off _ _ (by decide)]; exact a2
  rw [e8, nI_clamp (by omega)] at e1
  rw [a1, nI_clamp (by omega)] at e2
  rw [a2, nI_clamp (by omega)] at e3
  have ll : (l ++ [16 * s + 4 * i + j]).length = l.length + 1 := by simp
  refine k τ4 ⟨by rw [e4, ab_upd_same, a3, nI_1, ll], fun r hr => ?_⟩ ⟨fun z h1 h2 h3 h4 => ?_, fun t ht => ?_⟩
  · have b6 : τ4 56 r = if r = l.length then nI s else σ 56 r := by
      rw [e4, ab_upd_off _ _ (by decide), e3, ab_upd_off _ _ (by decide), e2, ab_upd_off _ _ (by decide), e1, ab_upd_eq]
      simp
    have b7 : τ4 57 r = if r = l.length then nI i else σ 57 r := by
      rw [e4, ab_upd_off _ _ (by decide), e3, ab_upd_off _ _ (by decide), e2, ab_upd_eq, e1, ab_upd_off _ _ (by decide)]
      simp
    have b8 : τ4 58 r = if r = l.length then nI j else σ 58 r := by
      rw [e4, ab_upd_off _ _ (by decide), e3, ab_upd_eq, e2, ab_upd_off _ _ (by decide), e1, ab_upd_off _ _ (by decide)]
      simp
    rw [ll] at hr
    rw [b6, b7, b8]
    by_cases e : r = l.length
    · have ga : (l ++ [16 * s + 4 * i + j]).getD r 0 = 16 * s + 4 * i + j := by rw [gdA, if_neg (by omega), if_pos e]
      rw [ga, if_pos e, if_pos e, if_pos e, show (16 * s + 4 * i + j) / 16 = s from by omega, dm3 hi hj, show (16 * s + 4 * i + j) % 4 = j from by omega]
      exact ⟨rfl, rfl, rfl⟩
    · rw [if_neg e, if_neg e, if_neg e, gdA, if_pos (by omega)]
      exact hE r (by omega)
  · rw [e4, ab_upd_off _ _ h1, e3, ab_upd_off _ _ h4, e2, ab_upd_off _ _ h3, e1, ab_upd_off _ _ h2]
  · rw [e4, ab_upd_eq, if_neg (by omega), e3, ab_upd_off _ _ (by decide), e2, ab_upd_off _ _ (by decide), e1, ab_upd_off _ _ (by decide)]
theorem list_f {n : Nat} (n1 : 1 ≤ n) (n4 : n ≤ 4) (hA : AR σ) (k : ∀ τ, OSr (OL (σ 51) n) τ → τ 50 7 = nI n → (∀ j, j < 128 → τ 55 j = -1) → fLs σ τ → Q none τ) : evm mX8_list [.inr (.inr 50), .inl (nI n)] σ Q := by
  obtain ⟨ar, har⟩ : ∃ ar, ar = σ 51 := ⟨_, rfl⟩
  rw [← har] at k
  have hA' : ∀ j, j < 8 → arok (ar j) := fun j hj => by rw [har]; exact hA j hj
  have h128 := OL_len (ar := ar) n4
  have len : ∀ (l : List Nat) a (R : List Nat), l ++ (a :: R) = OL ar n → l.length < 128 := fun l a R e => by
    have := congrArg List.length e
    simp at this
    omega
  have ea : ∀ τ, fLs σ τ → ∀ a, a < 8 → τ 51 (nI a).toNatClampNeg = ar a := fun τ f a ha => by rw [nI_clamp (by omega), f.1 51 (by decide) (by decide) (by decide) (by decide) (by decide), har]
  have n7 : ∀ {τ υ}, τ 50 7 = nI n → fU τ υ → υ 50 7 = nI n := fun h f => by rw [f.2 7 (by decide)]; exact h
  have fill : ∀ (d a : Nat) (τ : ab_M) (o3 o4 o5 o6 : Option ab_V), a + d = 128 → τ 50 7 = nI n → OSr (OL ar n) τ → (∀ j, j < a → τ 55 j = -1) → fLs σ τ → ev mX8_list 167 [some (.inr (.inr 50)), some (.inl (nI n)), some (.inl (nI a)), o3, o4, o5, o6] [] τ Q := by
    intro d
    induction d with
    | zero =>
      intro a τ o3 o4 o5 o6 ha h7 hE hv f
      exact s_X8_list_167 ⟨fun _ => k τ hE h7 (fun j hj => hv j (by omega)) f, fun q => absurd (nI_le (a := 128) (by omega) (by omega)) q⟩
    | succ d ih =>
      intro a τ o3 o4 o5 o6 ha h7 hE hv f
      refine s_X8_list_167 ⟨fun q => absurd q (nI_ge (b := 128) (by omega) (by decide)), fun _ => ⟨inN (by omega) (by decide), ?_⟩⟩
      rw [nI_1, nI_clamp (by omega)]
      refine ih (a + 1) _ _ _ _ _ (by omega) (by rw [ab_upd_off _ _ (by decide)]; exact h7) ?_ (fun j hj => ?_) ⟨fun z a b c d e => by rw [ab_upd_off _ _ b]; exact f.1 z a b c d e, fun t a b => by rw [ab_upd_off _ _ (by decide)]; exact f.2 t a b⟩
      · unfold OSr
        rw [ab_upd_off _ _ (by decide), ab_upd_off _ _ (by decide), ab_upd_off _ _ (by decide), ab_upd_off _ _ (by decide)]
        exact hE
      · rw [ab_upd_eq]
        by_cases e : j = a
        · rw [if_pos ⟨rfl, e⟩]
        · rw [if_neg (fun q => e q.2)]
          exact hv j (by omega)
  have outer : ∀ (d M : Nat) (l : List Nat) (τ : ab_M) (o3 o4 o5 o6 : Option ab_V), M + d = n → l ++ gR ar d (M + 1) = OL ar n → τ 50 7 = nI n → OSr l τ → fLs σ τ → ev mX8_list 42 [some (.inr (.inr 50)), some (.inl (nI n)), some (.inl (nI M)), o3, o4, o5, o6] [] τ Q := by
    intro d
    induction d with
    | zero =>
      intro M l τ o3 o4 o5 o6 hM hl h7 hE f
      have el : l = OL ar n := by rw [← hl]; simp [gR]
      exact s_X8_list_42 ⟨fun _ => fill 128 0 τ _ _ _ _ (by omega) h7 (by rw [← el]; exact hE) (fun j hj => by omega) f, fun q => absurd (by rw [h7]; exact nI_le (by omega) (by omega)) q⟩
    | succ d ih =>
      intro M l τ o3 o4 o5 o6 hM hl h7 hE f
      refine s_X8_list_42 ⟨fun q => ?_, fun _ => ?_⟩
      · rw [h7] at q
        exact absurd ((nI_leI (by omega) (by omega)).mp q) (by omega)
      have mid : ∀ (e a : Nat) (l : List Nat) (τ : ab_M) (o4 o5 o6 : Option ab_V), a + e = 8 → l ++ (sR ar (M + 1) e a ++ gR ar d (M + 1 + 1)) = OL ar n → τ 50 7 = nI n → OSr l τ → fLs σ τ → ev mX8_list 52 [some (.inr (.inr 50)), some (.inl (nI n)), some (.inl (nI M)), some (.inl (nI a)), o4, o5, o6] [] τ Q := by
        intro e
        induction e with
        | zero =>
          intro a l τ o4 o5 o6 ha hl h7 hE f
          refine s_X8_list_52 ⟨fun _ => ?_, fun q => absurd (nI_le (a := 8) (by omega) (by omega)) q⟩
          rw [nI_1]
          exact ih (M + 1) l τ _ _ _ _ (by omega) hl h7 hE f
        | succ e ihe =>
          intro a l τ o4 o5 o6 ha hl h7 hE f
          obtain ⟨R, hR⟩ : ∃ R, R = sR ar (M + 1) e (a + 1) ++ gR ar d (M + 1 + 1) := ⟨_, rfl⟩
          have hl2 : l ++ (seg (ar a) (M + 1) a ++ R) = OL ar n := by
            rw [← hl, hR]
            show _ = l ++ ((seg (ar a) (M + 1) a ++ sR ar (M + 1) e (a + 1)) ++ gR ar d (M + 1 + 1))
            simp
          have inn : ∀ (g b : Nat) (l : List Nat) (τ : ab_M) (o5 o6 : Option ab_V), b + g = n * n → ar a = 2 → l ++ (kR n M a g b ++ R) = OL ar n → τ 50 7 = nI n → OSr l τ → fLs σ τ → ev mX8_list 78 [some (.inr (.inr 50)), some (.inl (nI n)), some (.inl (nI M)), some (.inl (nI a)), some (.inl (nI b)), o5, o6] [] τ Q := by
            have nn : n * n ≤ 16 := Nat.mul_le_mul n4 n4
            intro g
            induction g with
            | zero =>
              intro b l τ o5 o6 hb a2 hl h7 hE f
              refine s_X8_list_78 ⟨fun _ => ?_, fun q => absurd (by rw [h7, pk_mul]; exact nI_le (by omega) (by omega)) q⟩
              rw [nI_1]
              exact ihe (a + 1) l τ _ _ _ (by omega) (by rw [← hR]; exact hl) h7 hE f
            | succ g ihg =>
              intro b l τ o5 o6 hb a2 hl h7 hE f
              obtain ⟨d1, d2, d3, d5⟩ := dm n (by omega) b (by omega) ⟨n1, by omega⟩
              have n0 : ¬ nI n = 0 := nI_ne0 n1 (by omega)
              have hl' : l ++ (((if (if b / n ≤ b % n then b % n else b / n) = M then [16 * a + 4 * (b / n) + b % n] else []) ++ kR n M a g (b + 1)) ++ R) = OL ar n := hl
              refine s_X8_list_78 ⟨fun q => ?_, fun _ => ⟨in8 (by omega), fun _ => ?_, fun q => absurd (by rw [ea τ f a (by omega)]; exact a2) q⟩⟩
              · rw [h7, pk_mul] at q
                exact absurd ((nI_leI (by omega) (by omega)).mp q) (by omega)
              · rw [h7, d2, d1, nI_1]
                have put : (if b / n ≤ b % n then b % n else b / n) = M → evm mX8_put [.inr (.inr 50), .inl (nI a), .inl (nI (b / n)), .inl (nI (b % n))] τ (fun v τ1 => v = none ∧ ev mX8_list 78 [some (.inr (.inr 50)), some (.inl (nI n)), some (.inl (nI M)), some (.inl (nI a)), some (.inl (nI (b + 1))), some (.inl (nI (b / n))), some (.inl (nI (b % n)))] [] τ1 Q) := by
                  intro hq
                  rw [if_pos hq] at hl'
                  refine pu_g (len l _ _ hl') (by omega) d3 d5 hE (fun υ uo fu => ⟨rfl, ihg (b + 1) _ υ _ _ (by omega) a2 ?_ (n7 h7 fu) uo (f.tr fu)⟩)
                  rw [← hl']
                  simp
                have skip : ¬ (if b / n ≤ b % n then b % n else b / n) = M → ev mX8_list 78 [some (.inr (.inr 50)), some (.inl (nI n)), some (.inl (nI M)), some (.inl (nI a)), some (.inl (nI (b + 1))), some (.inl (nI (b / n))), some (.inl (nI (b % n)))] [] τ Q := by
                  intro hq
                  rw [if_neg hq] at hl'
                  exact ihg (b + 1) l τ _ _ (by omega) a2 hl' h7 hE f
                have l1 : nI (b / n) ≤ nI (b % n) ↔ b / n ≤ b % n := nI_leI (by omega) (by omega)
                have m1 : nI (b % n) = nI M ↔ b % n = M := nI_eq (by omega) (by omega)
                have m2 : nI (b / n) = nI M ↔ b / n = M := nI_eq (by omega) (by omega)
                refine ⟨n0, n0, fun q => ⟨fun q2 => put ?_, fun q2 => skip ?_⟩, fun q => ⟨fun q2 => put ?_, fun q2 => skip ?_⟩⟩
                · rw [if_pos (l1.mp q)]
                  exact m1.mp q2
                · rw [if_pos (l1.mp q)]
                  exact fun x => q2 (m1.mpr x)
                · rw [if_neg (fun q3 => q (l1.mpr q3))]
                  exact m2.mp q2
                · rw [if_neg (fun q3 => q (l1.mpr q3))]
                  exact fun x => q2 (m2.mpr x)
          have out : ∀ (l : List Nat) (τ : ab_M) (o5 o6 : Option ab_V), ¬ ar a = 2 → l ++ R = OL ar n → τ 50 7 = nI n → OSr l τ → fLs σ τ → ev mX8_list 78 [some (.inr (.inr 50)), some (.inl (nI n)), some (.inl (nI M)), some (.inl (nI a)), some (.inl 0), o5, o6] [] τ Q := by
            intro l τ o5 o6 a2 hl h7 hE f
            have fin : ∀ o4, ev mX8_list 52 [some (.inr (.inr 50)), some (.inl (nI n)), some (.inl (nI M)), some (.inl (nI a + 1)), o4, o5, o6] [] τ Q := fun o4 => by
              rw [nI_1]
              exact ihe (a + 1) l τ _ _ _ (by omega) (by rw [← hR]; exact hl) h7 hE f
            exact s_X8_list_78 ⟨fun _ => fin _, fun _ => ⟨in8 (by omega), fun q => absurd (by rw [← ea τ f a (by omega)]; exact q) a2, fun _ => fin _⟩⟩
          refine s_X8_list_52 ⟨fun q => absurd q (nI_ge (b := 8) (by omega) (by decide)), fun _ => ⟨in8 (by omega), fun q => ?_, fun q => ?_⟩⟩
          · rw [ea τ f a (by omega)] at q
            have es : seg (ar a) (M + 1) a = [16 * a + 4 * M + 0] := by
              unfold seg
              rw [q, if_neg (by decide), if_pos rfl, if_neg (by omega)]
              rfl
            rw [es] at hl2
            refine pu_g (i := M) (j := 0) (len l _ _ hl2) (by omega) (by omega) (by omega) hE (fun υ uo fu => ⟨rfl, out _ υ _ _ (by rw [q]; decide) ?_ (n7 h7 fu) uo (f.tr fu)⟩)
            rw [← hl2]
            simp
          · rw [ea τ f a (by omega)] at q
            by_cases a2 : ar a = 2
            · have es : seg (ar a) (M + 1) a = kR n M a (n * n) 0 := by
                rw [kR_prs n4 (by omega)]
                unfold seg
                rw [a2, if_neg (by decide), if_neg (by decide), if_pos rfl]
              rw [es] at hl2
              exact inn (n * n) 0 l τ _ _ (by omega) a2 hl2 h7 hE f
            · have es : seg (ar a) (M + 1) a = [] := by
                unfold seg
                split
                · rw [if_neg (by omega)]
                · rfl
              rw [es] at hl2
              exact out l τ _ _ a2 hl2 h7 hE f
      exact mid 8 0 l τ _ _ _ (by omega) hl h7 hE f
  have first : ∀ (d a : Nat) (l : List Nat) (τ : ab_M) (o3 o4 o5 o6 : Option ab_V), a + d = 8 → l ++ (sR ar 0 d a ++ gR ar n 1) = OL ar n → τ 50 7 = nI n → OSr l τ → fLs σ τ → ev mX8_list 12 [some (.inr (.inr 50)), some (.inl (nI n)), some (.inl (nI a)), o3, o4, o5, o6] [] τ Q := by
    intro d
    induction d with
    | zero =>
      intro a l τ o3 o4 o5 o6 ha hl h7 hE f
      exact s_X8_list_12 ⟨fun _ => outer n 0 l τ _ _ _ _ (by omega) hl h7 hE f, fun q => absurd (nI_le (a := 8) (by omega) (by omega)) q⟩
    | succ d ih =>
      intro a l τ o3 o4 o5 o6 ha hl h7 hE f
      have hl2 : l ++ (seg (ar a) 0 a ++ (sR ar 0 d (a + 1) ++ gR ar n 1)) = OL ar n := by
        rw [← hl]
        show _ = l ++ ((seg (ar a) 0 a ++ sR ar 0 d (a + 1)) ++ gR ar n 1)
        simp
      rw [seg_0] at hl2
      refine s_X8_list_12 ⟨fun q => absurd q (nI_ge (b := 8) (by omega) (by decide)), fun _ => ⟨in8 (by omega), fun q => ?_, fun q => ?_⟩⟩
      · rw [ea τ f a (by omega)] at q
        rw [if_pos q] at hl2
        refine pu_g (i := 0) (j := 0) (len l _ _ hl2) (by omega) (by omega) (by omega) hE (fun υ uo fu => ⟨rfl, ?_⟩)
        rw [nI_1]
        refine ih (a + 1) _ υ _ _ _ _ (by omega) ?_ (n7 h7 fu) uo (f.tr fu)
        rw [← hl2]
        simp
      · rw [ea τ f a (by omega)] at q
        rw [if_neg q] at hl2
        rw [nI_1]
        exact ih (a + 1) l τ _ _ _ _ (by omega) hl2 h7 hE f
  refine s_X8_list_0 (first 8 0 [] _ _ _ _ _ (by omega) (by rw [← gR_OL n4]; rfl) (by rw [ab_upd_eq, if_neg (by decide), ab_upd_same]) ⟨ab_upd_same _ _ _ _, fun r hr => by simp at hr⟩ ⟨fun z a _ _ _ _ => by rw [ab_upd_off _ _ a, ab_upd_off _ _ a], fun t a b => by rw [ab_upd_eq, if_neg (by omega), ab_upd_eq, if_neg (by omega)]⟩)
end LR

section WKF
variable {σ : ab_M} {Q : Option ab_V → ab_M → Prop}
theorem OR.mv {n c : Nat} {ord : Nat → Nat} {τ : ab_M} (h : OR n ord c σ) (f7 : τ 50 7 = σ 50 7) (f8 : τ 50 8 = σ 50 8) (f : ∀ z, z = 56 ∨ z = 57 ∨ z = 58 → τ z = σ z) : OR n ord c τ := by
  unfold OR
  rw [f7, f8, f 56 (by omega), f 57 (by omega), f 58 (by omega)]
  exact h
theorem pl_f {ar : Nat → Int32} {n c k : Nat} {ord : Nat → Nat} (hO : OK ar n ord c) (hOR : OR n ord c σ) (hk : k < c) (h : Q (some (.inl (nI (ord k)))) σ) : evm mX8_placeOf [.inr (.inr 50), .inl (nI k)] σ Q := by
  have c1 := hO.1
  obtain ⟨e1, e2, e3⟩ := hOR.2.2 k hk
  have b := inN (j := k) (n := 128) (by omega) (by decide)
  refine s_X8_placeOf_0 ⟨b, b, b, ?_⟩
  rw [nI_clamp (by omega), e1, e2, e3]
  have e : 16 * nI (ord k / 16) + 4 * nI (ord k % 16 / 4) + nI (ord k % 4) = nI (ord k) := by
    show nI 16 * nI (ord k / 16) + nI 4 * nI (ord k % 16 / 4) + nI (ord k % 4) = _
    rw [pk_mul, pk_mul, nI_add, nI_add]
    congr 1
    omega
  rw [e]
  exact h
theorem dn_int {j : Nat} (hj : j ≤ 200) : (dn j).toInt = (j : Int) - 1 := by
  unfold dn
  rw [i32_sub (by rw [li_1, nI_toInt (by omega)]; omega) (by rw [li_1, nI_toInt (by omega)]; omega), li_1, nI_toInt (by omega)]
theorem lm_f {n c k : Nat} {ord V : Nat → Nat} (n1 : 1 ≤ n) (n4 : n ≤ 4) (hO : OK (σ 51) n ord c) (hOR : OR n ord c σ) (hV : VVr V σ) (hVn : ∀ a, a < 64 → V a ≤ n) (hk : k < c) (h : Q (some (.inl (nI (lmN (σ 51) ord n V k)))) σ) : evm mX8_limit [.inr (.inr 50), .inl (nI k)] σ Q := by
  have c1 := hO.1
  obtain ⟨o1, o2⟩ := OKo hO n4 hk
  obtain ⟨e1, e2, e3⟩ := hOR.2.2 k hk
  have b := inN (j := k) (n := 128) (by omega) (by decide)
  have g4 := gaC_le (ar := σ 51) (a := ord k)
  have nn : σ 50 7 - 1 = nI (n - 1) := by
    rw [hOR.1]
    obtain ⟨a, rfl⟩ : ∃ a, n = a + 1 := ⟨n - 1, by omega⟩
    exact nI_pred a
  have loop : ord k < 64 → ∀ (d j : Nat) (x2 x3 : Int32) (o5 : Option ab_V), j + d = k → x2 = dn (max (gaC (σ 51) (ord k)) (gbF ord V j)) → ev mX8_limit 62 [some (.inr (.inr 50)), some (.inl (nI k)), some (.inl x2), some (.inl x3), some (.inl (nI j)), o5] [] σ Q := by
    intro hf d
    induction d with
    | zero =>
      intro j x2 x3 o5 hj hx
      have e : j = k := by omega
      subst e
      have b4 := Nat.le_trans (gbF_le (c := c) (ord := ord) hVn j) n4
      unfold lmN at h
      rw [if_pos hf] at h
      have e1 : x2 + 1 = nI (max (gaC (σ 51) (ord j)) (gbF ord V j)) := by rw [hx, dn_1, dn_s]
      refine s_X8_limit_62 ⟨fun _ => ?_, fun q => absurd (nI_le (Nat.le_refl _) (by omega)) q⟩
      rw [nn, e1]
      have l := nI_leI (a := n - 1) (b := max (gaC (σ 51) (ord j)) (gbF ord V j)) (by omega) (by omega)
      refine ⟨fun q => ?_, fun q => ?_⟩
      · have := l.mp q
        rw [show min (max (gaC (σ 51) (ord j)) (gbF ord V j)) (n - 1) = n - 1 from by omega] at h
        exact h
      · have : ¬ n - 1 ≤ max (gaC (σ 51) (ord j)) (gbF ord V j) := fun x => q (l.mpr x)
        rw [show min (max (gaC (σ 51) (ord j)) (gbF ord V j)) (n - 1) = max (gaC (σ 51) (ord j)) (gbF ord V j) from by omega] at h
        exact h
    | succ d ih =>
      intro j x2 x3 o5 hj hx
      have b4 := Nat.le_trans (gbF_le (c := c) (ord := ord) hVn j) n4
      obtain ⟨p1, p2⟩ := OKo hO n4 (show j < c by omega)
      refine s_X8_limit_62 ⟨fun q => absurd ((nI_leI (by omega) (by omega)).mp q) (by omega), fun _ => pl_f hO hOR (by omega) ⟨_, rfl, inN p1 (by decide), inN (by omega) (by decide), ?_⟩⟩
      rw [nI_1, nI_clamp (by omega), nI_clamp (by omega), (hOR.2.2 j (by omega)).1, (hV _ p1).1]
      have v4 := (hV _ p1).2
      have l4 : 4 ≤ nI (ord j / 16) ↔ 4 ≤ ord j / 16 := nI_leI (a := 4) (by decide) (by omega)
      have gs : gbF ord V (j + 1) = if ord j < 64 then max (gbF ord V j) (V (ord j)) else gbF ord V j := rfl
      refine ⟨fun q => ih (j + 1) _ _ _ (by omega) ?_, fun q => ⟨fun q2 => ih (j + 1) _ _ _ (by omega) ?_, fun q2 => ih (j + 1) _ _ _ (by omega) ?_⟩⟩
      · have := l4.mp q
        rw [gs, if_neg (by omega), hx]
      · have q4 : ¬ 4 ≤ ord j / 16 := fun x => q (l4.mpr x)
        rw [hx] at q2
        have := (dn_le2 (by omega) (by omega)).mp q2
        rw [gs, if_pos (by omega), hx]
        congr 1
        omega
      · have q4 : ¬ 4 ≤ ord j / 16 := fun x => q (l4.mpr x)
        rw [hx] at q2
        have : ¬ V (ord j) ≤ max (gaC (σ 51) (ord k)) (gbF ord V j) := fun x => q2 ((dn_le2 (by omega) (by omega)).mpr x)
        rw [gs, if_pos (by omega)]
        congr 1
        omega
  have i8 : ab_in (σ 56 (nI k).toNatClampNeg) 8 = true := by rw [nI_clamp (by omega), e1]; exact in8 o2
  have l3 : nI (ord k / 16) ≤ 3 ↔ ord k / 16 ≤ 3 := nI_leI (b := 3) (by omega) (by decide)
  refine s_X8_limit_0 ⟨b, fun q => ⟨b, i8, ?_⟩, fun q => ?_⟩
  · rw [nI_clamp (by omega), e1] at q
    have hf : ord k < 64 := by have := l3.mp q; omega
    rw [nI_clamp (n := k) (by omega), e1, nI_clamp (n := ord k / 16) (by omega), e2, e3]
    have st : ∀ (x2 x3 : Int32), x2 = dn (gaC (σ 51) (ord k)) → ev mX8_limit 62 [some (.inr (.inr 50)), some (.inl (nI k)), some (.inl x2), some (.inl x3), some (.inl 0), none] [] σ Q := fun x2 x3 hx => loop hf k 0 x2 x3 none (by omega) (by rw [hx]; show _ = dn (max _ 0); rw [Nat.max_zero])
    obtain ⟨s, i, j, s8, es, hs⟩ := hO.2.1 k hk
    have d1 : ord k / 16 = s ∧ ord k % 16 / 4 = i ∧ ord k % 4 = j := by
      rcases hs with ⟨_, a, b⟩ | ⟨_, a, b⟩ | ⟨_, a, b⟩ <;> omega
    have ga : gaC (σ 51) (ord k) = if σ 51 s = 1 then i + 1 else if σ 51 s = 2 then max i j + 1 else 0 := by
      unfold gaC
      rw [d1.1, d1.2.1, d1.2.2]
    rw [d1.1, d1.2.1, d1.2.2]
    rcases hs with ⟨a, hi, hj⟩ | ⟨a, hi, hj⟩ | ⟨a, hi, hj⟩
    · rw [a] at ga ⊢
      have e : gaC (σ 51) (ord k) = 0 := by rw [ga]; rfl
      exact ⟨fun _ => ⟨fun _ => st _ _ (by rw [e]; decide), fun q => absurd (by decide) q⟩, fun q => absurd (by decide) q⟩
    · rw [a] at ga ⊢
      have e : gaC (σ 51) (ord k) = i + 1 := by rw [ga]; rfl
      exact ⟨fun q => absurd q (by decide), fun _ => ⟨b, fun _ => st _ _ (by rw [e, dn_s]), fun q => absurd (by decide) q⟩⟩
    · rw [a] at ga ⊢
      have e : gaC (σ 51) (ord k) = max i j + 1 := by rw [ga]; rfl
      have lij : nI j ≤ nI i ↔ j ≤ i := nI_leI (by omega) (by omega)
      exact ⟨fun q => absurd q (by decide), fun _ => ⟨b, fun q => absurd q (by decide), fun _ => ⟨b, fun q => st _ _ (by rw [e, dn_s]; congr 1; have := lij.mp q; omega), fun q => ⟨b, st _ _ (by rw [e, dn_s]; congr 1; have : ¬ j ≤ i := fun x => q (lij.mpr x); omega)⟩⟩⟩⟩
  · rw [nI_clamp (by omega), e1] at q
    have hf : ¬ ord k < 64 := fun x => q (l3.mpr (by omega))
    unfold lmN at h
    rw [if_neg hf] at h
    exact h
/-- the reference's state in the search -/
def RSr (ar : Nat → Int32) (ord : Nat → Nat) (c n : Nat) (Lc : Nat → Nat) (Tc : Nat → Nat → Nat) (m p t : Nat) (V : Nat → Nat) (σ : ab_M) : Prop := VVr V σ ∧ Vs n ord c p V ∧ KB ar ord c n Lc Tc m p V ∧ σ 50 14 = nI t ∧ t ≤ 3000 ∧ p ≤ c + 1
/-- what the walk writes -/
def fX (σ τ : ab_M) : Prop := (∀ z, z ≠ 50 → z ≠ 55 → z ≠ 59 → z ≠ 61 → τ z = σ z) ∧ (∀ t, t ≠ 14 → t ≠ 18 → τ 50 t = σ 50 t)
theorem fX.rf {σ : ab_M} : fX σ σ := ⟨fun _ _ _ _ _ => rfl, fun _ _ _ => rfl⟩
theorem fX.tr {σ τ υ : ab_M} (h1 : fX σ τ) (h2 : fX τ υ) : fX σ υ := ⟨fun z a b c d => (h2.1 z a b c d).trans (h1.1 z a b c d), fun t a b => (h2.2 t a b).trans (h1.2 t a b)⟩
theorem fX.ofB {σ τ : ab_M} (h : fB σ τ) : fX σ τ := ⟨fun z a _ c d => h.1 z a c d, fun t _ b => h.2 t b⟩
theorem wk_f {n m c : Nat} {ord : Nat → Nat} {Lc : Nat → Nat} {Tc : Nat → Nat → Nat} (hTX : TX (σ 51) m Lc Tc) (n1 : 1 ≤ n) (n4 : n ≤ 4) (hO : OK (σ 51) n ord c) (hOR : OR n ord c σ) (hT : RT m Lc Tc σ) :
    ∀ (f p t : Nat) (V : Nat → Nat) (τ : ab_M) (x1 : Int32) (o3 : Option ab_V), (3000 - t) * 200 + p < f → RSr (σ 51) ord c n Lc Tc m p t V τ → fX σ τ → (∀ υ, fX σ υ → RSr (σ 51) ord c n Lc Tc m (wsp (σ 51) ord c n Lc Tc m f p t V).2.1 (wsp (σ 51) ord c n Lc Tc m f p t V).2.2.1 (wsp (σ 51) ord c n Lc Tc m f p t V).2.2.2 υ → Q (some (.inl (wsp (σ 51) ord c n Lc Tc m f p t V).1)) υ) → ev mX8_walk 2 [some (.inr (.inr 50)), some (.inl x1), some (.inl (dn p)), o3] [] τ Q := by
  intro f
  have c1 := hO.1
  induction f with
  | zero => intro p t V τ x1 o3 hd; omega
  | succ f ih =>
    intro p t V τ x1 o3 hd hS fx K
    obtain ⟨hV, hs, kb, h6, t3, pc⟩ := id hS
    have a51 : τ 51 = σ 51 := fx.1 51 (by decide) (by decide) (by decide) (by decide)
    rcases p with _ | p
    · have e : wsp (σ 51) ord c n Lc Tc m (f + 1) 0 t V = (0, 0, t, V) := rfl
      rw [e] at K
      exact s_X8_walk_2 ⟨fun _ => ⟨fun q => absurd q (by decide), fun _ => K τ fx hS⟩, fun h => absurd dn_0 h⟩
    · rw [dn_s]
      have orr : OR n ord c τ := hOR.mv (fx.2 7 (by decide) (by decide)) (fx.2 8 (by decide) (by decide)) (fun z hz => fx.1 z (by omega) (by omega) (by omega) (by omega))
      have hO2 : OK (τ 51) n ord c := by rw [a51]; exact hO
      have lc : nI c ≤ nI p ↔ c ≤ p := nI_leI (by omega) (by omega)
      have W : wsp (σ 51) ord c n Lc Tc m (f + 1) (p + 1) t V = (if p + 1 = 0 then (0, p + 1, t, V) else if c < p + 1 then (1, p + 1, t, V) else if V (ord p) ≤ lmN (σ 51) ord n V p then (if t = 3000 then (-4, p + 1, t, V) else wsp (σ 51) ord c n Lc Tc m f (bif badB (σ 51) Lc Tc m n (upV V (ord p) (V (ord p) + 1)) then p + 1 else p + 1 + 1) (t + 1) (upV V (ord p) (V (ord p) + 1))) else wsp (σ 51) ord c n Lc Tc m f p t (upV V (ord p) 0)) := rfl
      rw [if_neg (by omega)] at W
      refine s_X8_walk_2 ⟨fun q => absurd q (nI_pos (by omega)), fun _ => ?_⟩
      rw [orr.2.1]
      refine ⟨fun h => ⟨fun _ => ?_, fun q => absurd (nI_pos' (by omega)) q⟩, fun h => ?_⟩
      · have := lc.mp h
        rw [if_pos (by omega)] at W
        rw [W] at K
        exact K τ fx hS
      · have pl : p < c := by
          rcases Nat.lt_or_ge p c with g | g
          · exact g
          · exact absurd (lc.mpr g) h
        rw [if_neg (by omega)] at W
        obtain ⟨o1, o2⟩ := OKo hO n4 pl
        have v4 := (hV _ o1).2
        have inj : ∀ k, k < c → k ≠ p → ord k ≠ ord p := fun k hk h e => h (hO.2.2.2 k p hk pl e)
        refine pl_f hO2 orr pl ⟨_, rfl, inN o1 (by decide), lm_f n1 n4 hO2 orr hV hs.2.2.1 pl ⟨_, rfl, ?_⟩⟩
        have e1 : dn (V (ord p)) + 1 = nI (V (ord p)) := by rw [dn_1, dn_s]
        rw [nI_clamp (n := ord p) (by omega), (hV _ o1).1, e1, a51, h6]
        have lm4 : lmN (σ 51) ord n V p ≤ 4 ∧ (ord p < 64 → lmN (σ 51) ord n V p ≤ n - 1) ∧ (¬ ord p < 64 → lmN (σ 51) ord n V p = 1) := by
          unfold lmN
          split
          · rename_i h
            exact ⟨by omega, fun _ => by omega, fun q => absurd h q⟩
          · rename_i h
            exact ⟨by omega, fun q => absurd q h, fun _ => rfl⟩
        have ll : nI (V (ord p)) ≤ nI (lmN (σ 51) ord n V p) ↔ V (ord p) ≤ lmN (σ 51) ord n V p := nI_leI (by omega) (by omega)
        refine ⟨fun hv => ⟨fun ht => ?_, fun ht => ?_⟩, fun hv => ?_⟩
        · rw [if_pos (ll.mp hv), if_pos ((nI_eq (b := 3000) (by omega) (by decide)).mp ht)] at W
          rw [W] at K
          exact K τ fx hS
        · have hv2 := ll.mp hv
          have t2 : ¬ t = 3000 := fun e => ht (by rw [e]; rfl)
          rw [if_pos hv2, if_neg t2] at W
          have vb : V (ord p) + 1 ≤ 4 ∧ (ord p < 64 → V (ord p) + 1 ≤ n) ∧ (¬ ord p < 64 → V (ord p) + 1 ≤ 2) := by
            by_cases h64 : ord p < 64
            · have := lm4.2.1 h64
              exact ⟨by omega, fun _ => by omega, fun q => absurd h64 q⟩
            · have := lm4.2.2 h64
              exact ⟨by omega, fun q => absurd q h64, fun _ => by omega⟩
          rw [nI_1 t]
          have or2 : OR n ord c (ab_upd τ 50 14 (nI (t + 1))) := orr.mv (by rw [ab_upd_eq, if_neg (by decide)]) (by rw [ab_upd_eq, if_neg (by decide)]) (fun z hz => ab_upd_off _ _ (by omega))
          refine pl_f hO2 or2 pl ⟨_, rfl, inN o1 (by decide), inN (by omega) (by decide), ?_⟩
          rw [nI_clamp (n := p) (by omega), nI_clamp (n := ord p) (by omega)]
          generalize hu : ab_upd (ab_upd τ 50 14 (nI (t + 1))) 55 (ord p) (nI (V (ord p))) = υ
          have u0 : ∀ z, z ≠ 50 → z ≠ 55 → υ z = τ z := fun z h1 h2 => by rw [← hu, ab_upd_off _ _ h2, ab_upd_off _ _ h1]
          have u50 : ∀ s, s ≠ 14 → υ 50 s = τ 50 s := fun s h1 => by rw [← hu, ab_upd_off _ _ (by decide), ab_upd_eq, if_neg (by omega)]
          have u14 : υ 50 14 = nI (t + 1) := by rw [← hu, ab_upd_off _ _ (by decide), ab_upd_same]
          have uV : VVr (upV V (ord p) (V (ord p) + 1)) υ := by
            intro a ha
            rw [← hu, ab_upd_eq, ab_upd_off _ _ (by decide)]
            by_cases e : a = ord p
            · rw [if_pos ⟨rfl, e⟩, e, upV_s, dn_s]
              exact ⟨rfl, vb.1⟩
            · rw [if_neg (fun q => e q.2), upV_o e]
              exact hV a ha
          have fu : fX σ υ := fx.tr ⟨fun z h1 h2 _ _ => u0 z h1 h2, fun s h1 _ => u50 s h1⟩
          have b51 : υ 51 = σ 51 := by rw [u0 51 (by decide) (by decide)]; exact a51
          have uo : OR n ord c υ := orr.mv (u50 7 (by decide)) (u50 8 (by decide)) (fun z hz => u0 z (by omega) (by omega))
          rw [(uo.2.2 p pl).1]
          have hVn : ∀ k, k < c → (upV V (ord p) (V (ord p) + 1)) (ord k) = if k = p then V (ord p) + 1 else V (ord k) := by
            intro k hk
            by_cases e : k = p
            · rw [if_pos e, e, upV_s]
            · rw [if_neg e, upV_o (inj k hk e)]
          have hb64 : ∀ a, a < 64 → (upV V (ord p) (V (ord p) + 1)) a ≤ n := by
            intro a ha
            by_cases e : a = ord p
            · rw [e, upV_s]; exact vb.2.1 (by omega)
            · rw [upV_o e]; exact hs.2.2.1 a ha
          have hb128 : ∀ a, 64 ≤ a → a < 128 → (upV V (ord p) (V (ord p) + 1)) a ≤ 2 := by
            intro a ha hb
            by_cases e : a = ord p
            · rw [e, upV_s]; exact vb.2.2 (by omega)
            · rw [upV_o e]; exact hs.2.2.2 a ha hb
          have kb1 : KB (σ 51) ord c n Lc Tc m (p + 1) (upV V (ord p) (V (ord p) + 1)) := fun k hk W hW hW4 => kb k hk W (fun j hj => by
            rw [hW j hj]
            by_cases e : j < k
            · rw [if_pos e, if_pos e, hVn j hj, if_neg (by omega)]
            · rw [if_neg e, if_neg e]) hW4
          have hz : ∀ k, k < c → p < k → (upV V (ord p) (V (ord p) + 1)) (ord k) = 0 := fun k hk h => by rw [hVn k hk, if_neg (by omega)]; exact hs.2.1 k hk (by omega)
          have eb := sm_bad hTX n1 n4 hO pl (fun a ha => (uV a ha).2) hz kb1
          refine sm_f (so := some (ord p / 16)) (V := upV V (ord p) (V (ord p) + 1)) (fun s h => by cases h; exact o2) (fun j hj => by rw [b51]; exact hTX.1 j hj) (hT.mv (fu.2 5 (by decide) (by decide)) b51 (fu.1 53 (by decide) (by decide) (by decide) (by decide)) (fu.1 54 (by decide) (by decide) (by decide) (by decide))) uV hb128 uo.1 n1 n4 (fun ω fw => ⟨_, rfl, ?_⟩)
          rw [b51, eb]
          have fw2 := fu.tr (fX.ofB fw)
          have wV : VVr (upV V (ord p) (V (ord p) + 1)) ω := fun a ha => by rw [fw.1 55 (by decide) (by decide) (by decide)]; exact uV a ha
          have w14 : ω 50 14 = nI (t + 1) := by rw [fw.2 14 (by decide)]; exact u14
          cases bb : badB (σ 51) Lc Tc m n (upV V (ord p) (V (ord p) + 1)) with
          | true =>
            rw [bb] at W
            rw [W] at K
            refine ⟨fun q => absurd q (by decide), fun _ => ?_⟩
            rw [Int32.add_zero, ← dn_s]
            exact ih (p + 1) (t + 1) _ ω _ _ (by omega) ⟨wV, ⟨fun k hk h => by rw [hVn k hk, if_neg (by omega)]; exact hs.1 k hk (by omega), fun k hk h => hz k hk (by omega), hb64, hb128⟩, kb1, w14, by omega, by omega⟩ fw2 K
          | false =>
            rw [bb] at W
            rw [W] at K
            refine ⟨fun _ => ?_, fun q => absurd rfl q⟩
            rw [nI_1, ← dn_s]
            refine ih (p + 1 + 1) (t + 1) _ ω _ _ (by omega) ⟨wV, ⟨fun k hk h => ?_, fun k hk h => hz k hk (by omega), hb64, hb128⟩, fun k hk W hW hW4 => ?_, w14, by omega, by omega⟩ fw2 K
            · rw [hVn k hk]
              by_cases e : k = p
              · rw [if_pos e]; omega
              · rw [if_neg e]; exact hs.1 k hk (by omega)
            · by_cases e : k = p + 1
              · refine badB_f.mpr (fun i x y z hv => ?_)
                rw [brk_ag (V := upV V (ord p) (V (ord p) + 1)) hTX n1 n4 hO hv hb64 (fun j hj => ?_)]
                · exact badB_f.mp bb i x y z hv
                · rw [hW j hj, e]
                  by_cases e2 : j < p + 1
                  · rw [if_pos e2]
                  · rw [if_neg e2, hz j hj (by omega)]
              · exact kb1 k (by omega) W hW hW4
        · have hv2 : ¬ V (ord p) ≤ lmN (σ 51) ord n V p := fun x => hv (ll.mpr x)
          rw [if_neg hv2] at W
          rw [W] at K
          refine pl_f hO2 orr pl ⟨_, rfl, inN o1 (by decide), ?_⟩
          rw [dn_m, nI_clamp (by omega)]
          have hVn : ∀ k, k < c → (upV V (ord p) 0) (ord k) = if k = p then 0 else V (ord k) := by
            intro k hk
            by_cases e : k = p
            · rw [if_pos e, e, upV_s]
            · rw [if_neg e, upV_o (inj k hk e)]
          refine ih p t (upV V (ord p) 0) _ _ _ (by omega) ⟨fun a ha => ?_, ⟨fun k hk h => by rw [hVn k hk, if_neg (by omega)]; exact hs.1 k hk (by omega), fun k hk h => ?_, fun a ha => ?_, fun a ha hb => ?_⟩, fun k hk W hW hW4 => kb k (by omega) W (fun j hj => ?_) hW4, by rw [ab_upd_off _ _ (by decide)]; exact h6, t3, by omega⟩ (fx.tr ⟨fun z _ h2 _ _ => ab_upd_off _ _ h2, fun s _ _ => by rw [ab_upd_off _ _ (by decide)]⟩) K
          · rw [ab_upd_eq]
            by_cases e : a = ord p
            · rw [if_pos ⟨rfl, e⟩, e, upV_s]
              exact ⟨by decide, by omega⟩
            · rw [if_neg (fun q => e q.2), upV_o e]
              exact hV a ha
          · rw [hVn k hk]
            by_cases e : k = p
            · rw [if_pos e]
            · rw [if_neg e]; exact hs.2.1 k hk (by omega)
          · by_cases e : a = ord p
            · rw [e, upV_s]; omega
            · rw [upV_o e]; exact hs.2.2.1 a ha
          · by_cases e : a = ord p
            · rw [e, upV_s]; omega
            · rw [upV_o e]; exact hs.2.2.2 a ha hb
          · rw [hW j hj]
            by_cases e : j < k
            · rw [if_pos e, if_pos e, hVn j hj, if_neg (by omega)]
            · rw [if_neg e, if_neg e]
end WKF

section FIL
variable {σ : ab_M} {Q : Option ab_V → ab_M → Prop}
theorem CT.mv {m : Nat} {Lc : Nat → Nat} {Tc : Nat → Nat → Nat} {τ : ab_M} (h : CT m Lc Tc σ) (f : ∀ z, z < 37 → τ z = σ z) : CT m Lc Tc τ := by
  obtain ⟨h1, h2, h3⟩ := h
  refine ⟨h1, by rw [f 5 (by omega)]; exact h2, fun i hi => ?_⟩
  obtain ⟨a, b, c, d⟩ := h3 i hi
  refine ⟨a, ?_, c, by rw [f 2 (by omega)]; exact d⟩
  unfold Kp
  rw [f (7 + 3 * i) (by omega), f (7 + 3 * i + 1) (by omega), f (7 + 3 * i + 2) (by omega)]
  exact b
theorem OC.mv {n c : Nat} {ord : Nat → Nat} {τ : ab_M} (h : OC n ord c σ) (f : ∀ z, z = 37 ∨ z = 39 ∨ z = 40 → τ z = σ z) : OC n ord c τ := by
  unfold OC
  rw [f 37 (by omega), f 39 (by omega), f 40 (by omega)]
  exact h
theorem rec_mv {I g ms : Nat} {τ : ab_M} (h : rec I g ms σ) (h6 : τ 46 = σ 46) (h7 : τ 47 = σ 47) : rec I g ms τ := ⟨h.1, h.2.1, by rw [h6]; exact h.2.2.1, by rw [h7]; exact h.2.2.2⟩
theorem CA.mv {τ : ab_M} (h : CA σ) (h6 : τ 46 = σ 46) (h7 : τ 47 = σ 47) : CA τ := fun I hI => by
  obtain ⟨g, ms, a⟩ := h I hI
  exact ⟨g, ms, rec_mv a h6 h7⟩
theorem JP.mv {ar : Nat → Int32} {ord : Nat → Nat} {c : Nat} {Lc : Nat → Nat} {Tc : Nat → Nat → Nat} {m n r : Nat} {V : Nat → Nat} {τ : ab_M} (h : JP ar ord c Lc Tc m n r V σ) (h6 : τ 46 = σ 46) (h7 : τ 47 = σ 47) : JP ar ord c Lc Tc m n r V τ := fun i x y z hv => by
  obtain ⟨g, ms, a, b⟩ := h i x y z hv
  exact ⟨g, ms, rec_mv a h6 h7, b⟩
/-- the class's put -/
theorem pt_f {ar : Nat → Int32} {n c k v : Nat} {ord V : Nat → Nat} (hO : OK ar n ord c) (n4 : n ≤ 4) (hOC : OC n ord c σ) (hV : VVc V σ) (hk : k < c) (hv : v + 1 ≤ 4) (h48 : σ 48 k = dn (gbF ord V k)) (hgb : gbF ord V k ≤ 4) (h : ∀ τ, VVc (upV V (ord k) (v + 1)) τ → (∀ z, z ≠ 38 → z ≠ 48 → τ z = σ z) → (∀ j, j ≠ k + 1 → τ 48 j = σ 48 j) → τ 48 (k + 1) = dn (if ord k < 64 then max (gbF ord V k) (v + 1) else gbF ord V k) → Q none τ) : evm mX4_put [.inr (.inr 45), .inl (nI k), .inl (nI v)] σ Q := by
  have c1 := hO.1
  rw [← dn_s v]
  refine s_X4_put_0 (pa_f hO n4 hOC hV hk hv (fun τ tv tf => ⟨rfl, inN (by omega) (by decide), ?_⟩))
  have oc : OC n ord c τ := hOC.mv (fun z hz => tf z (by omega))
  have e48 : τ 48 = σ 48 := tf 48 (by decide)
  rw [nI_1, nI_clamp (by omega), nI_clamp (by omega), e48, h48]
  have fin : ∀ w : Nat, w = (if ord k < 64 then max (gbF ord V k) (v + 1) else gbF ord V k) → Q none (ab_upd τ 48 (k + 1) (dn w)) := by
    intro w hw
    refine h _ (fun a ha => by rw [ab_upd_off _ _ (by decide)]; exact tv a ha) (fun z z1 z2 => by rw [ab_upd_off _ _ z2]; exact tf z z1) (fun j hj => by rw [ab_upd_eq, if_neg (by omega), e48]) (by rw [ab_upd_same, hw])
  refine fa_f hO n4 oc hk (fun q => ⟨_, rfl, fun q2 => absurd q2 (by decide), fun _ => ⟨inN (by omega) (by decide), ?_⟩⟩) (fun q => ⟨_, rfl, fun _ => ⟨inN (by omega) (by decide), fin _ (by rw [if_neg q])⟩, fun q2 => absurd rfl q2⟩)
  rw [mm_t (by omega) (by omega)]
  exact fin _ (by rw [if_pos q])
theorem fill_f {n m c : Nat} {ord : Nat → Nat} {Lc : Nat → Nat} {Tc : Nat → Nat → Nat} (har : ∀ j, j < 8 → arok (σ 2 j)) (n1 : 1 ≤ n) (n4 : n ≤ 4) (hO : OK (σ 2) n ord c) (hOC : OC n ord c σ) (h41 : ∀ k, k < c → σ 41 k = dn (gaC (σ 2) (ord k))) (hT : CT m Lc Tc σ) :
    ∀ (f p t : Nat) (V : Nat → Nat) (τ : ab_M) (x1 : Int32) (q : Nat) (o4 : Option ab_V), (3000 - t) * 200 + p < f → q + f ≤ 1000000 → CS (σ 2) ord c n Lc Tc m p t V τ → fW σ τ → (∀ υ, fW σ υ → CS (σ 2) ord c n Lc Tc m (wsp (σ 2) ord c n Lc Tc m f p t V).2.1 (wsp (σ 2) ord c n Lc Tc m f p t V).2.2.1 (wsp (σ 2) ord c n Lc Tc m f p t V).2.2.2 υ → Q (some (.inl (wsp (σ 2) ord c n Lc Tc m f p t V).1)) υ) → ev mX4_fill 4 [some (.inr (.inr 45)), some (.inl x1), some (.inl (dn p)), some (.inl (nI q)), o4] [] τ Q := by
  intro f
  have c1 := hO.1
  induction f with
  | zero => intro p t V τ x1 q o4 hd; omega
  | succ f ih =>
    intro p t V τ x1 q o4 hd hq hS fw K
    obtain ⟨hV, hs, ca, jq, h48, h6, t3, pc⟩ := id hS
    have q6 : ¬ 1000000 ≤ nI q := nI_ge (b := 1000000) (by omega) (by decide)
    have a2 : τ 2 = σ 2 := fw 2 (by decide) (by omega)
    rcases p with _ | p
    · have e : wsp (σ 2) ord c n Lc Tc m (f + 1) 0 t V = (0, 0, t, V) := rfl
      rw [e] at K
      exact s_X4_fill_4 ⟨fun h => absurd h q6, fun _ => ⟨fun h => absurd h (by decide), fun _ => K τ fw hS⟩⟩
    · rw [dn_s]
      have oc : OC n ord c τ := hOC.mv (fun z hz => fw z (by omega) (by omega))
      have o41 : ∀ k, k < c → τ 41 k = dn (gaC (σ 2) (ord k)) := fun k hk => by rw [fw 41 (by decide) (by omega)]; exact h41 k hk
      refine s_X4_fill_4 ⟨fun h => absurd h q6, fun _ => ⟨fun _ => s_X6_count_0 ⟨_, rfl, ?_⟩, fun h => absurd (nI_pos' (by omega)) h⟩⟩
      rw [oc.2.1]
      have lc : nI p < nI c ↔ p < c := nI_ltI (by omega) (by omega)
      have W : wsp (σ 2) ord c n Lc Tc m (f + 1) (p + 1) t V = (if p + 1 = 0 then (0, p + 1, t, V) else if c < p + 1 then (1, p + 1, t, V) else if V (ord p) ≤ lmN (σ 2) ord n V p then (if t = 3000 then (-4, p + 1, t, V) else wsp (σ 2) ord c n Lc Tc m f (bif badB (σ 2) Lc Tc m n (upV V (ord p) (V (ord p) + 1)) then p + 1 else p + 1 + 1) (t + 1) (upV V (ord p) (V (ord p) + 1))) else wsp (σ 2) ord c n Lc Tc m f p t (upV V (ord p) 0)) := rfl
      rw [if_neg (by omega)] at W
      refine ⟨fun h => ?_, fun h => ?_⟩
      · have pl := lc.mp h
        rw [if_neg (by omega)] at W
        have o1 := (OKo hO n4 pl).1
        have g4 : gbF ord V p ≤ 4 := Nat.le_trans (gbF_le (c := c) hs.2.2.1 p) n4
        have inj : ∀ k, k < c → k ≠ p → ord k ≠ ord p := fun k hk h e => h (hO.2.2.2 k p hk pl e)
        refine va_f hO n4 oc hV pl ⟨_, rfl, ?_⟩
        have e1 : dn (V (ord p)) + 1 = nI (V (ord p)) := by rw [dn_1, dn_s]
        rw [e1]
        refine li_f hO n1 n4 oc o41 (h48 p (by omega)) g4 pl ⟨_, rfl, ?_⟩
        have v4 := (hV _ o1).2
        have lm4 : lmN (σ 2) ord n V p ≤ 4 ∧ (ord p < 64 → lmN (σ 2) ord n V p ≤ n - 1) ∧ (¬ ord p < 64 → lmN (σ 2) ord n V p = 1) := by
          unfold lmN
          split
          · rename_i h
            exact ⟨by omega, fun _ => by omega, fun q => absurd h q⟩
          · rename_i h
            exact ⟨by omega, fun q => absurd q h, fun _ => rfl⟩
        have ll : nI (V (ord p)) ≤ nI (lmN (σ 2) ord n V p) ↔ V (ord p) ≤ lmN (σ 2) ord n V p := nI_leI (by omega) (by omega)
        refine ⟨fun hv => ?_, fun hv => ?_⟩
        · have hv2 := ll.mp hv
          rw [if_pos hv2] at W
          rw [h6]
          have l3 : nI t < 3000 ↔ t < 3000 := nI_ltI (b := 3000) (by omega) (by decide)
          refine ⟨fun ht => ?_, fun ht => ?_⟩
          · have t2 := l3.mp ht
            rw [if_neg (by omega)] at W
            have vb : V (ord p) + 1 ≤ 4 ∧ (ord p < 64 → V (ord p) + 1 ≤ n) ∧ (¬ ord p < 64 → V (ord p) + 1 ≤ 2) := by
              by_cases h64 : ord p < 64
              · have := lm4.2.1 h64
                exact ⟨by omega, fun _ => by omega, fun q => absurd h64 q⟩
              · have := lm4.2.2 h64
                exact ⟨by omega, fun q => absurd q h64, fun _ => by omega⟩
            rw [nI_1]
            have e45 : ∀ z, z ≠ 45 → (ab_upd τ 45 6 (nI (t + 1))) z = τ z := fun z hz => ab_upd_off _ _ hz
            refine pt_f (V := V) hO n4 (oc.mv (fun z hz => e45 z (by omega))) (fun a ha => by rw [e45 38 (by decide)]; exact hV a ha) pl vb.1 (by rw [e45 48 (by decide)]; exact h48 p (by omega)) g4 (fun υ uv uf u48 u48p => ⟨rfl, ?_⟩)
            have u1 : ∀ z, z ≠ 38 → z ≠ 45 → z ≠ 48 → υ z = τ z := fun z h1 h2 h3 => by rw [uf z h1 h3, e45 z h2]
            have u45 : υ 45 6 = nI (t + 1) := by rw [uf 45 (by decide) (by decide), ab_upd_same]
            have b2 : υ 2 = σ 2 := by rw [u1 2 (by decide) (by decide) (by decide)]; exact a2
            have fu : fW σ υ := fun z h1 h2 => by
              rw [u1 z h1 (by omega) (by omega)]
              exact fw z h1 h2
            have hVn : ∀ k, k < c → (upV V (ord p) (V (ord p) + 1)) (ord k) = if k = p then V (ord p) + 1 else V (ord k) := by
              intro k hk
              by_cases e : k = p
              · rw [if_pos e, e, upV_s]
              · rw [if_neg e, upV_o (inj k hk e)]
            have hb64 : ∀ a, a < 64 → (upV V (ord p) (V (ord p) + 1)) a ≤ n := by
              intro a ha
              by_cases e : a = ord p
              · rw [e, upV_s]; exact vb.2.1 (by omega)
              · rw [upV_o e]; exact hs.2.2.1 a ha
            have hb128 : ∀ a, 64 ≤ a → a < 128 → (upV V (ord p) (V (ord p) + 1)) a ≤ 2 := by
              intro a ha hb
              by_cases e : a = ord p
              · rw [e, upV_s]; exact vb.2.2 (by omega)
              · rw [upV_o e]; exact hs.2.2.2 a ha hb
            have hVr : Vr n ord c (p + 1) (upV V (ord p) (V (ord p) + 1)) := by
              refine ⟨fun k hk => ?_, hb64, hb128⟩
              rw [hVn k hk]
              by_cases e : k = p
              · rw [if_pos e]
                exact ⟨fun _ => by omega, fun _ => by omega⟩
              · rw [if_neg e]
                by_cases e2 : k < p
                · exact ⟨fun _ => by omega, fun _ => hs.1 k hk (by omega)⟩
                · exact ⟨fun h => absurd (hs.2.1 k hk (by omega)) h, fun h => by omega⟩
            have j0 := jq (by omega)
            have jn : JP (σ 2) ord c Lc Tc m n p (upV V (ord p) (V (ord p) + 1)) υ := (JP_down (s := p) j0 (by omega) (fun k hk kc => by rw [hVn k kc, if_neg (by omega)])).mv (u1 46 (by decide) (by decide) (by decide)) (u1 47 (by decide) (by decide) (by decide))
            have gb2 : ∀ k, k < p + 1 + 1 → υ 48 k = dn (gbF ord (upV V (ord p) (V (ord p) + 1)) k) := by
              intro k hk
              by_cases e : k = p + 1
              · rw [e, u48p]
                congr 1
                show _ = (if ord p < 64 then max (gbF ord (upV V (ord p) (V (ord p) + 1)) p) ((upV V (ord p) (V (ord p) + 1)) (ord p)) else gbF ord (upV V (ord p) (V (ord p) + 1)) p)
                rw [upV_s, gbF_congr (V := V) (W := upV V (ord p) (V (ord p) + 1)) p (fun j hj => by rw [hVn j (by omega), if_neg (by omega)])]
              · rw [u48 k e, e45 48 (by decide), h48 k (by omega), gbF_congr (V := V) (W := upV V (ord p) (V (ord p) + 1)) k (fun j hj => by rw [hVn j (by omega), if_neg (by omega)])]
            rw [← dn_s p]
            refine sb_f (r := p + 1) (V := upV V (ord p) (V (ord p) + 1)) (by rw [b2]; exact har) n1 n4 (by rw [b2]; exact hO) (oc.mv (fun z hz => u1 z (by omega) (by omega) (by omega))) (hT.mv (fun z hz => fu z (by omega) (by omega))) uv hVr (by omega) (ca.mv (u1 46 (by decide) (by decide) (by decide)) (u1 47 (by decide) (by decide) (by decide))) (fun _ => by rw [b2]; exact jn) (fun ω wf wb wca wj => ⟨_, rfl, fun q => absurd q (by decide), fun _ => ?_⟩) (fun ω wf wb wca wj => ⟨_, rfl, fun _ => ?_, fun q => absurd rfl q⟩)
            · rw [b2] at wb wj
              have bb : badB (σ 2) Lc Tc m n (upV V (ord p) (V (ord p) + 1)) = true := badB_t.mpr wb
              rw [bb] at W
              rw [W] at K
              rw [nI_1]
              refine ih (p + 1) (t + 1) (upV V (ord p) (V (ord p) + 1)) ω _ (q + 1) _ (by omega) (by omega) ⟨fun a ha => by rw [wf 38 (by omega)]; exact uv a ha, ⟨fun k hk h => (hVr.1 k hk).mpr (by omega), fun k hk h => by rcases Nat.eq_zero_or_pos ((upV V (ord p) (V (ord p) + 1)) (ord k)) with z | z; exact z; have := (hVr.1 k hk).mp (by omega); omega, hb64, hb128⟩, wca, wj, fun k hk => by rw [wf 48 (by omega)]; exact gb2 k (by omega), by rw [wf 45 (by omega)]; exact u45, by omega, by omega⟩ (fu.tr (fW.of wf)) K
            · rw [b2] at wb wj
              have bb : badB (σ 2) Lc Tc m n (upV V (ord p) (V (ord p) + 1)) = false := badB_f.mpr wb
              rw [bb] at W
              rw [W] at K
              rw [dn_s, nI_1, nI_1, ← dn_s (p + 1)]
              refine ih (p + 1 + 1) (t + 1) (upV V (ord p) (V (ord p) + 1)) ω _ (q + 1) _ (by omega) (by omega) ⟨fun a ha => by rw [wf 38 (by omega)]; exact uv a ha, ⟨fun k hk h => (hVr.1 k hk).mpr (by omega), fun k hk h => by rcases Nat.eq_zero_or_pos ((upV V (ord p) (V (ord p) + 1)) (ord k)) with z | z; exact z; have := (hVr.1 k hk).mp (by omega); omega, hb64, hb128⟩, wca, fun _ => wj, fun k hk => by rw [wf 48 (by omega)]; exact gb2 k hk, by rw [wf 45 (by omega)]; exact u45, by omega, by omega⟩ (fu.tr (fW.of wf)) K
          · have t2 : t = 3000 := by
              rcases Nat.lt_or_ge t 3000 with g | g
              · exact absurd (l3.mpr g) ht
              · omega
            rw [if_pos t2] at W
            rw [W] at K
            exact K τ fw hS
        · have hv2 : ¬ V (ord p) ≤ lmN (σ 2) ord n V p := fun x => hv (ll.mpr x)
          rw [if_neg hv2] at W
          rw [W] at K
          have d0 : (-1 : Int32) = dn 0 := by decide
          rw [dn_m, nI_1]
          refine pa_f (v := 0) hO n4 oc hV pl (by omega) (fun υ uv uf => ⟨rfl, ?_⟩)
          have hVn : ∀ k, k < c → (upV V (ord p) 0) (ord k) = if k = p then 0 else V (ord k) := by
            intro k hk
            by_cases e : k = p
            · rw [if_pos e, e, upV_s]
            · rw [if_neg e, upV_o (inj k hk e)]
          refine ih p t (upV V (ord p) 0) υ _ (q + 1) _ (by omega) (by omega) ⟨uv, ⟨fun k hk h => by rw [hVn k hk, if_neg (by omega)]; exact hs.1 k hk (by omega), fun k hk h => ?_, fun a ha => ?_, fun a ha hb => ?_⟩, ca.mv (uf 46 (by decide)) (uf 47 (by decide)), fun h1 => ?_, fun k hk => ?_, by rw [uf 45 (by decide)]; exact h6, t3, by omega⟩ (fun z h1 h2 => by rw [uf z h1]; exact fw z h1 h2) K
          · rw [hVn k hk]
            by_cases e : k = p
            · rw [if_pos e]
            · rw [if_neg e]; exact hs.2.1 k hk (by omega)
          · by_cases e : a = ord p
            · rw [e, upV_s]; omega
            · rw [upV_o e]; exact hs.2.2.1 a ha
          · by_cases e : a = ord p
            · rw [e, upV_s]; omega
            · rw [upV_o e]; exact hs.2.2.2 a ha hb
          · exact (JP_down (s := p - 1) (jq (by omega)) (by omega) (fun k hk kc => by rw [hVn k kc, if_neg (by omega)])).mv (uf 46 (by decide)) (uf 47 (by decide))
          · rw [uf 48 (by decide), h48 k (by omega), gbF_congr (V := V) (W := upV V (ord p) 0) k (fun j hj => by rw [hVn j (by omega), if_neg (by omega)])]
      · have pg : c < p + 1 := by
          rcases Nat.lt_or_ge p c with g | g
          · exact absurd (lc.mpr g) h
          · omega
        rw [if_pos pg] at W
        rw [W] at K
        exact K τ fw hS
end FIL

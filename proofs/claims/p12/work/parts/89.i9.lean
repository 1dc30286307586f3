/-! the class's begin -/
section BG
variable {σ : ab_M} {Q : Option ab_V → ab_M → Prop}
theorem OS_OC {ar : Nat → Int32} {n : Nat} (n4 : n ≤ 4) (h : OS ar (OL ar n) σ) (h4 : σ 37 4 = nI n) : OC n (od ar n) (OL ar n).length σ ∧ ∀ k, k < (OL ar n).length → σ 41 k = dn (gaC ar (od ar n k)) := by
  have inj := (OL_OK (ar := ar) n4).2.2.2
  refine ⟨⟨h4, h.1, fun k hk => ⟨(h.2 k hk).1, (h.2 k hk).2.2 (fun j h1 h2 e => ?_)⟩⟩, fun k hk => (h.2 k hk).2.1⟩
  have := inj j k h2 hk e
  omega
theorem begin_f {n m t : Nat} {Lc : Nat → Nat} {Tc : Nat → Nat → Nat} (n1 : 1 ≤ n) (n4 : n ≤ 4) (har : ∀ j, j < 8 → arok (σ 2 j)) (hT : CT m Lc Tc σ) (hCA : CA σ) (ht : σ 45 6 = nI t) (t3 : t ≤ 3000)
    (k0 : badB (σ 2) Lc Tc m n (fun _ => 0) = true → ∀ τ, CA τ → τ 45 6 = nI t → fS σ τ → Q (some (.inl 0)) τ)
    (k1 : badB (σ 2) Lc Tc m n (fun _ => 0) = false → ∀ τ, OC n (od (σ 2) n) (OL (σ 2) n).length τ → (∀ k, k < (OL (σ 2) n).length → τ 41 k = dn (gaC (σ 2) (od (σ 2) n k))) → CS (σ 2) (od (σ 2) n) (OL (σ 2) n).length n Lc Tc m (wsp (σ 2) (od (σ 2) n) (OL (σ 2) n).length n Lc Tc m 700000 1 t (fun _ => 0)).2.1 (wsp (σ 2) (od (σ 2) n) (OL (σ 2) n).length n Lc Tc m 700000 1 t (fun _ => 0)).2.2.1 (wsp (σ 2) (od (σ 2) n) (OL (σ 2) n).length n Lc Tc m 700000 1 t (fun _ => 0)).2.2.2 τ → fS σ τ → Q (some (.inl (wsp (σ 2) (od (σ 2) n) (OL (σ 2) n).length n Lc Tc m 700000 1 t (fun _ => 0)).1)) τ) : evm mX4_begin [.inr (.inr 45), .inl (nI n), .inr (.inr 1)] σ Q := by
  refine s_X4_begin_0 (lay_f n4 har (fun τ o1 o4 ov f => ⟨rfl, by decide, ?_⟩))
  have e48 : ∀ z, z ≠ 48 → (ab_upd τ 48 (0 : Int32).toNatClampNeg (-1)) z = τ z := fun z hz => ab_upd_off _ _ hz
  have v48 : (ab_upd τ 48 (0 : Int32).toNatClampNeg (-1)) 48 0 = -1 := ab_upd_same _ _ _ _
  generalize ab_upd τ 48 (0 : Int32).toNatClampNeg (-1) = υ at e48 v48 ⊢
  have fu : fS σ υ := fun z hz => by rw [e48 z (by omega)]; exact f z (by omega)
  have a2 : υ 2 = σ 2 := fu 2 (by omega)
  have hO := OL_OK (ar := σ 2) n4
  have ou : OS (σ 2) (OL (σ 2) n) υ := by
    unfold OS
    rw [e48 37 (by decide), e48 39 (by decide), e48 41 (by decide), e48 40 (by decide)]
    exact o1
  obtain ⟨oc, o41⟩ := OS_OC n4 ou (by rw [e48 37 (by decide)]; exact o4)
  have uV : VVc (fun _ => 0) υ := fun k hk => by
    rw [e48 38 (by decide), ov k hk]
    exact ⟨by show (-1 : Int32) = dn 0; decide, Nat.zero_le _⟩
  have hVr : Vr n (od (σ 2) n) (OL (σ 2) n).length 0 (fun _ => 0) := ⟨fun k hk => ⟨fun h => absurd rfl h, fun h => by omega⟩, fun a _ => Nat.zero_le _, fun a _ _ => Nat.zero_le _⟩
  have u45 : υ 45 6 = nI t := by rw [e48 45 (by decide), f 45 (by omega)]; exact ht
  have ca : CA υ := hCA.mv (by rw [e48 46 (by decide)]; exact f 46 (by omega)) (by rw [e48 47 (by decide)]; exact f 47 (by omega))
  refine sb_f (r := 0) (V := fun _ => 0) (by rw [a2]; exact har) n1 n4 (by rw [a2]; exact hO) oc (hT.mv (fun z hz => fu z (by omega))) uV hVr (Nat.zero_le _) ca (fun h => by omega) (fun ω wf wb wca _ => ⟨_, rfl, fun q => absurd q (by decide), fun _ => ?_⟩) (fun ω wf wb wca wj => ⟨_, rfl, fun _ => ?_, fun q => absurd rfl q⟩)
  · rw [a2] at wb
    exact k0 (badB_t.mpr wb) ω wca (by rw [wf 45 (by omega)]; exact u45) (fun z hz => by rw [wf z (by omega)]; exact fu z hz)
  · rw [a2] at wb wj
    have fw : fS σ ω := fun z hz => by rw [wf z (by omega)]; exact fu z hz
    have b2 : ω 2 = σ 2 := fw 2 (by omega)
    have occ : OC n (od (σ 2) n) (OL (σ 2) n).length ω := oc.mv (fun z hz => wf z (by omega))
    have occ41 : ∀ k, k < (OL (σ 2) n).length → ω 41 k = dn (gaC (σ 2) (od (σ 2) n k)) := fun k hk => by rw [wf 41 (by omega)]; exact o41 k hk
    have kk := k1 (badB_f.mpr wb)
    rw [← b2] at kk hO occ occ41 wj har
    refine s_X4_fill_0 (fill_f (σ := ω) har n1 n4 hO occ occ41 (hT.mv (fun z hz => fw z (by omega))) 700000 1 t (fun _ => 0) ω _ 0 _ (by omega) (by omega) ⟨fun k hk => by rw [wf 38 (by omega)]; exact uV k hk, ⟨fun k _ h => by omega, fun _ _ _ => rfl, fun _ _ => Nat.zero_le _, fun _ _ _ => Nat.zero_le _⟩, wca, fun _ => wj, fun k hk => ?_, by rw [wf 45 (by omega)]; exact u45, t3, by omega⟩ fW.rf (fun ρ fr cs => ⟨_, rfl, kk ρ (occ.mv (fun z hz => fr z (by omega) (by omega))) (fun k hk => by rw [fr 41 (by decide) (by omega)]; exact occ41 k hk) cs (fun z hz => by rw [fr z (by omega) (by omega)]; exact fw z hz)⟩))
    have k00 : k = 0 := by omega
    rw [k00, wf 48 (by omega), v48]
    show (-1 : Int32) = dn 0
    decide
end BG

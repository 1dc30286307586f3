def VVr (V : Nat → Nat) (σ : ab_M) : Prop := ∀ k, k < 128 → σ 55 k = dn (V k) ∧ V k ≤ 4
theorem dn_3 {v : Nat} (h : v ≤ 4) : (dn v).toInt ≤ 3 := by
  have : ∀ v, v < 5 → (dn v).toInt ≤ 3 := by decide +kernel
  exact this v (by omega)
theorem dn_neg {v : Nat} (h : v ≤ 4) : dn v < 0 ↔ v = 0 := by
  have : ∀ v, v < 5 → (dn v < 0 ↔ v = 0) := by decide +kernel
  exact this v (by omega)
theorem VVr.vi {V : Nat → Nat} {σ : ab_M} (h : VVr V σ) : VI σ := fun k hk => by rw [(h k hk).1]; exact dn_3 (h k hk).2
theorem cl3 {x : Int32} (h : x.toInt ≤ 3) : x.toNatClampNeg ≤ 3 := by
  show x.toInt.toNat ≤ 3
  omega
section CK
variable {σ : ab_M}
theorem ceR_u {s w h : Nat} (hw : w ≤ 2) (hu : ∃ t, h - w ≤ t ∧ t < h ∧ σ 61 t < 0) (hh : w ≤ h) : ceR σ s w h = -1 := by
  obtain ⟨t, h1, h2, h3⟩ := hu
  unfold ceR
  rcases (by omega : w = 0 ∨ w = 1 ∨ w = 2) with rfl | rfl | rfl
  · omega
  · have e : t = h - 1 := by omega
    rw [if_neg (by omega), if_pos (by rw [← e]; exact h3)]
  · rw [if_neg (by omega)]
    by_cases q : σ 61 (h - 1) < 0
    · rw [if_pos q]
    · have e : t = h - 2 := by
        have : t ≠ h - 1 := fun e => q (by rw [← e]; exact h3)
        omega
      rw [if_neg q, if_neg (by omega), if_pos (by rw [← e]; exact h3)]
theorem ceR_k {V : Nat → Nat} {s w : Nat} {S : List Nat} (hs : s < 8) (hw : w ≤ 2) (hl : w ≤ S.length) (h60 : S.length ≤ 61) (h4 : ∀ x ∈ S, x < 4) (hS : stk (σ 61) S) (hV : VVr V σ) : ceR σ s w S.length = dn (V (cel s w S)) := by
  have c1 := cel_lt (w := w) hs h4
  rw [← (hV _ c1).1]
  unfold ceR cel
  rcases (by omega : w = 0 ∨ w = 1 ∨ w = 2) with rfl | rfl | rfl
  · rw [if_pos rfl, if_pos rfl, if_neg (by omega)]
    rfl
  · rcases S with _ | ⟨x, S⟩
    · simp at hl
    · have x4 := h4 x (by simp)
      have e : σ 61 ((x :: S).length - 1) = nI x := hS.1
      rw [if_neg (by omega), e, if_neg (nI_pos (by omega)), if_pos rfl, if_neg (by omega), if_neg (by omega), nI_clamp (by omega)]
      rfl
  · rcases S with _ | ⟨x, _ | ⟨y, S⟩⟩
    · simp at hl
    · simp at hl
    · have x4 := h4 x (by simp)
      have y4 := h4 y (by simp)
      have e : σ 61 ((x :: y :: S).length - 1) = nI x := hS.1
      have e2 : σ 61 ((x :: y :: S).length - 2) = nI y := hS.2.1
      rw [if_neg (by omega), e, e2, if_neg (nI_pos (by omega)), if_neg (by omega), if_neg (nI_pos (by omega)), if_neg (by omega), if_pos rfl, nI_clamp (by omega), nI_clamp (by omega)]
      rfl
theorem stV_le {b w h : Nat} (hb : b < 256) (hp : pops (σ 51) b w) (hh : w ≤ h) (hP : PI h σ) (hN : NI σ) (hV : VI σ) : (stV σ b w h).toInt ≤ 3 := by
  unfold stV
  split
  · exact hN _ (by omega)
  · rename_i nv
    split
    · split
      · decide
      · split
        · decide
        · split <;> decide
    · rename_i n61
      split
      · rename_i e33
        have w1 : 1 ≤ h := by
          rcases hp with ⟨h1, h2, _⟩ | ⟨h1, _⟩ | ⟨h1, _⟩ | ⟨_, h1⟩
          · omega
          · exact absurd e33 (sy_v b hb h1).2.2.1
          · omega
          · omega
        split
        · decide
        · rename_i q
          have h3 := hP.2.2 (h - 1) (by omega)
          rw [Int32.lt_iff_toInt_lt, li_0] at q
          rw [i32_sub (by rw [li_1]; omega) (by rw [li_1]; omega), li_1]
          omega
      · rename_i n33
        have h8 : sy b < 8 ∧ w ≤ 2 := by
          rcases hp with ⟨h1, h2, _⟩ | ⟨h1, h2, _⟩ | ⟨h1, _⟩ | ⟨h1, _⟩
          · exact absurd ⟨h1, h2⟩ nv
          · exact ⟨h1, h2⟩
          · exact absurd h1 n61
          · exact absurd h1 n33
        unfold ceR
        split
        · exact hV _ (by omega)
        · have a3 := cl3 (hP.2.2 (h - 1) (by omega))
          split
          · decide
          · split
            · exact hV _ (by omega)
            · have b3 := cl3 (hP.2.2 (h - 2) (by omega))
              split
              · decide
              · exact hV _ (by omega)
theorem PI_new {τ : ab_M} {b w h : Nat} (hP : PI h σ) (h6 : h - w ≤ 60) (y1 : τ 50 18 = nI (h - w + 1)) (y2 : ∀ t, t < h - w → τ 61 t = σ 61 t) (y3 : τ 61 (h - w) = stV σ b w h) (hle : (stV σ b w h).toInt ≤ 3) (hh : w ≤ h) : PI (h - w + 1) τ := by
  refine ⟨y1, by omega, fun t ht => ?_⟩
  by_cases e : t = h - w
  · rw [e, y3]; exact hle
  · rw [y2 t (by omega)]; exact hP.2.2 t (by omega)
end CK
section BF
variable {σ : ab_M} {Q : Option ab_V → ab_M → Prop}
theorem bk_f {V T X : Nat → Nat} {i L : Nat} (hi : i < 9) (hA : AR σ) (hL : L ≤ 60) (h54 : σ 54 i = nI L) (h53 : ∀ t, t < L → σ 53 (60 * i + t) = nI (T t) ∧ T t < 256) (hau : aur (σ 51) T L 0 (-2) = none) (hX : ∀ v, v < 3 → σ 59 v = nI (X v) ∧ X v < 4) (hV : VVr V σ) (hPr : ∀ k, 64 ≤ k → k < 128 → V k ≤ 2)
    (k : ∀ τ, fP σ τ → Q (some (.inl (bI (lk V (σ 51) T X L [] false).1))) τ) : evm mX8_isBroken [.inr (.inr 50), .inl (nI i)] σ Q := by
  obtain ⟨st, s0, sL, ss⟩ := aur_st hA L 0 (-2) (by omega) (Or.inl rfl) hau
  rw [Nat.zero_add] at sL
  have hN : NI σ := fun v hv => by rw [(hX v hv).1, nI_toInt (by have := (hX v hv).2; omega)]; have := (hX v hv).2; omega
  have out : ∀ (p : Nat) (τ : ab_M) (o4 : Option ab_V) (x3 : Int32), (∀ υ, fP σ υ → Q (some (.inl 0)) υ) → fP σ τ → ev mX8_isBroken 16 [some (.inr (.inr 50)), some (.inl (nI i)), some (.inl 0), some (.inl x3), o4] [] τ Q := by
    intro p τ o4 x3 K f
    exact s_n_X8_isBroken_16 ⟨fun _ => ⟨fun _ => K τ f, fun q => absurd rfl q⟩, fun _ => ⟨fun _ => ⟨fun _ => K τ f, fun q => absurd rfl q⟩, fun q => absurd rfl q⟩⟩
  have loopU : ∀ (p : Nat) (τ : ab_M) (o4 : Option ab_V), p ≤ L → PI (ht (st p)) τ → ht (st p) ≤ L - p → (∃ t, t < ht (st p) ∧ τ 61 t < 0) → fP σ τ → (∀ υ, fP σ υ → Q (some (.inl 0)) υ) → ev mX8_isBroken 16 [some (.inr (.inr 50)), some (.inl (nI i)), some (.inl 1), some (.inl (dn p)), o4] [] τ Q := by
    intro p
    induction p with
    | zero =>
      intro τ o4 hp P hl hu f K
      obtain ⟨t, t1, t2⟩ := hu
      have t0 : t = 0 := by
        rw [s0] at t1
        have : ht (-2) = 1 := by decide
        omega
      refine s_n_X8_isBroken_16 ⟨fun _ => ⟨fun _ => K τ f, fun _ => ⟨by decide, fun q => ?_, fun _ => K τ f⟩⟩, fun q => absurd dn_0 q⟩
      exfalso
      have q2 : τ 61 0 = 0 := q
      rw [t0, q2] at t2
      exact absurd t2 (by decide)
    | succ p ih =>
      intro τ o4 hp P hl hu f K
      obtain ⟨t, t1, t2⟩ := hu
      obtain ⟨e1, e2⟩ := ss p (by omega) (by omega)
      have hb := (h53 p (by omega)).2
      have hk := au_k hA (by omega) hb e2 e1
      rw [dn_s]
      refine s_n_X8_isBroken_16 ⟨fun q => absurd q (nI_pos (by omega)), fun _ => ⟨fun q => absurd q (by decide), fun _ => ?_⟩⟩
      rw [i60, nI_clamp (by omega), f.1 53 (by decide) (by decide), (h53 p (by omega)).1, dn_m]
      have N2 := hN.mv f
      have V2 := hV.vi.mv f
      have a51 : τ 51 = σ 51 := f.1 51 (by decide) (by decide)
      refine ⟨inN (by omega) (by decide), fun q => ?_, fun q => ?_⟩
      · have q1 : T p = 124 := (nI_eq (b := 124) (by omega) (by decide)).mp q
        refine ⟨by decide, fun q2 => ?_, fun _ τ1 e => out p τ1 _ _ K (by rw [e]; exact f.u50)⟩
        exfalso
        have z : st (p + 1) = -2 := by
          rcases hk with ⟨_, _, z3⟩ | ⟨_, z2, _⟩ | ⟨_, z2, _⟩ | ⟨w, _, _, z2, _⟩ | ⟨a, _, z2, _⟩ | ⟨a, w, _, z2, _⟩
          · exact z3
          · omega
          · omega
          · exact absurd q1 (sy_v _ hb z2).2.2.2
          · omega
          · exact absurd q1 (sy_v _ hb (by omega)).2.2.2
        rw [z] at t1
        have : ht (-2) = 1 := by decide
        have t0 : t = 0 := by omega
        have q3 : τ 61 0 = 0 := q2
        rw [t0, q3] at t2
        exact absurd t2 (by decide)
      · rcases au_pop hA (by omega) hb e2 e1 with h | ⟨w, hw, w1, w2⟩
        · exact absurd (by rw [h.2]; rfl) q
        · refine st_g hb (by rw [a51]; exact hw) w1 (by omega) P (fun υ y1 y2 y3 f2 => ⟨rfl, ?_⟩)
          have hle := stV_le (w := w) (h := ht (st (p + 1))) hb (by rw [a51]; exact hw) w1 P N2 V2
          refine ih υ _ (by omega) (by rw [w2]; exact PI_new P (by omega) y1 y2 y3 hle w1) (by omega) ?_ (f.tr f2) K
          by_cases ht1 : t < ht (st (p + 1)) - w
          · exact ⟨t, by omega, by rw [y2 t ht1]; exact t2⟩
          · refine ⟨ht (st (p + 1)) - w, by omega, ?_⟩
            rw [y3]
            have hd : t = ht (st (p + 1)) - 1 ∨ t = ht (st (p + 1)) - 2 := by
              have : w ≤ 2 := by
                rcases hw with ⟨_, _, h⟩ | ⟨_, h, _⟩ | ⟨_, h⟩ | ⟨_, h⟩ <;> omega
              omega
            rcases hw with ⟨h1, h2, h3⟩ | ⟨h1, h2, h3⟩ | ⟨h1, h2⟩ | ⟨h1, h2⟩
            · omega
            · obtain ⟨n1, n2, n3, n4⟩ := sy_v _ hb h1
              unfold stV
              rw [if_neg n1, if_neg n2, if_neg n3, ceR_u h2 ⟨t, by omega, t1, t2⟩ w1]
              decide
            · unfold stV
              rw [h1, if_neg (by decide), if_pos rfl]
              rcases hd with e | e
              · by_cases q5 : τ 61 (ht (st (p + 1)) - 2) < 0
                · rw [if_pos q5]; decide
                · rw [if_neg q5, if_pos (by rw [← e]; exact t2)]; decide
              · rw [if_pos (by rw [← e]; exact t2)]; decide
            · unfold stV
              have e : t = ht (st (p + 1)) - 1 := by omega
              rw [h1, if_neg (by decide), if_neg (by decide), if_pos rfl, if_pos (by rw [← e]; exact t2)]
              decide
  have ht0 : ∀ s : Int32, s < 0 → ht s = 1 := fun s h => if_pos h
  have loop : ∀ (p : Nat) (S : List Nat) (tr : Bool) (τ : ab_M) (o4 : Option ab_V), p ≤ L → PI (ht (st p)) τ → ht (st p) ≤ L - p → (∀ a ∈ S, a < 4) → (st p < 0 → S = [] ∧ τ 61 0 = bI tr) → (¬ st p < 0 → S.length = ht (st p) ∧ stk (τ 61) S) → fP σ τ → (∀ υ, fP σ υ → Q (some (.inl (bI (lk V (σ 51) T X p S tr).1))) υ) → ev mX8_isBroken 16 [some (.inr (.inr 50)), some (.inl (nI i)), some (.inl 1), some (.inl (dn p)), o4] [] τ Q := by
    intro p
    induction p with
    | zero =>
      intro S tr τ o4 hp P hl h4 hneg hpos f K
      obtain ⟨_, b0⟩ := hneg (by rw [s0]; decide)
      have K1 := K τ f
      refine s_n_X8_isBroken_16 ⟨fun _ => ⟨fun q => absurd q (by decide), fun _ => ⟨by decide, fun q => ?_, fun q => ?_⟩⟩, fun q => absurd dn_0 q⟩
      · have q2 : τ 61 0 = 0 := q
        rw [b0] at q2
        cases tr with
        | false => exact K1
        | true => exact absurd q2 (by decide)
      · have q2 : ¬ τ 61 0 = 0 := q
        rw [b0] at q2
        cases tr with
        | false => exact absurd rfl q2
        | true => exact K1
    | succ p ih =>
      intro S tr τ o4 hp P hl h4 hneg hpos f K
      obtain ⟨e1, e2⟩ := ss p (by omega) (by omega)
      have hb := (h53 p (by omega)).2
      have hk := au_k hA (by omega) hb e2 e1
      rw [dn_s]
      refine s_n_X8_isBroken_16 ⟨fun q => absurd q (nI_pos (by omega)), fun _ => ⟨fun q => absurd q (by decide), fun _ => ?_⟩⟩
      rw [i60, nI_clamp (by omega), f.1 53 (by decide) (by decide), (h53 p (by omega)).1, dn_m]
      have N2 := hN.mv f
      have V2 := hV.vi.mv f
      have a51 : τ 51 = σ 51 := f.1 51 (by decide) (by decide)
      have VV2 : VVr V τ := fun j hj => by rw [f.1 55 (by decide) (by decide)]; exact hV j hj
      have c124 : nI (T p) = 124 ↔ T p = 124 := nI_eq (b := 124) (by omega) (by decide)
      refine ⟨inN (by omega) (by decide), fun q => ?_, fun q => ?_⟩
      · have q1 := c124.mp q
        obtain ⟨z1, z3⟩ : st p = 0 ∧ st (p + 1) = -2 := by
          rcases hk with ⟨z1, _, z3⟩ | ⟨_, z2, _⟩ | ⟨_, z2, _⟩ | ⟨w, _, _, z2, _⟩ | ⟨a, _, z2, _⟩ | ⟨a, w, _, z2, _⟩
          · exact ⟨z1, z3⟩
          · omega
          · omega
          · exact absurd q1 (sy_v _ hb z2).2.2.2
          · omega
          · exact absurd q1 (sy_v _ hb (by omega)).2.2.2
        obtain ⟨S0, b0⟩ := hneg (by rw [z3]; decide)
        rw [lk_o q1] at K
        refine ⟨by decide, fun q2 τ1 e => ?_, fun q2 τ1 e => ?_⟩
        · have q3 : τ 61 0 = 0 := q2
          rw [b0] at q3
          cases tr with
          | true => exact absurd q3 (by decide)
          | false =>
            refine ih S false τ1 _ (by omega) ?_ (by rw [z1]; exact Nat.zero_le _) h4 (fun h => absurd h (by rw [z1]; decide)) (fun _ => ⟨by rw [S0, z1]; rfl, by rw [S0]; trivial⟩) (by rw [e]; exact f.u50) K
            rw [z1, e]
            exact ⟨ab_upd_same _ _ _ _, by decide, fun t h => absurd h (by show ¬ t < 0; omega)⟩
        · have q3 : ¬ τ 61 0 = 0 := q2
          rw [b0] at q3
          cases tr with
          | false => exact absurd rfl q3
          | true => exact out p τ1 _ _ K (by rw [e]; exact f.u50)
      · rcases au_pop hA (by omega) hb e2 e1 with h | ⟨w, hw, w1, w2⟩
        · exact absurd (by rw [h.2]; rfl) q
        · refine st_g hb (by rw [a51]; exact hw) w1 (by omega) P (fun υ y1 y2 y3 f2 => ⟨rfl, ?_⟩)
          have hle := stV_le (w := w) (h := ht (st (p + 1))) hb (by rw [a51]; exact hw) w1 P N2 V2
          have P2 : PI (ht (st p)) υ := by rw [w2]; exact PI_new P (by omega) y1 y2 y3 hle w1
          have l2 : ht (st p) ≤ L - p := by omega
          have ff := f.tr f2
          have dead : υ 61 (ht (st (p + 1)) - w) < 0 → (∀ ρ, fP σ ρ → Q (some (.inl 0)) ρ) → ev mX8_isBroken 16 [some (.inr (.inr 50)), some (.inl (nI i)), some (.inl 1), some (.inl (dn p)), some (.inl (nI (T p)))] [] υ Q := fun hd Kd => loopU p υ _ (by omega) P2 l2 ⟨_, by omega, hd⟩ ff Kd
          rcases hk with ⟨_, z2, _⟩ | ⟨z1, z2, z3⟩ | ⟨z1, z2, z3⟩ | ⟨w', z1, z2, z3, z4, z5, z6⟩ | ⟨a, z1, z2, z3, z4⟩ | ⟨a, w', z1, z2, z3, z4, z5, z6⟩
          · exact absurd (c124.mpr z2) q
          · -- not
            rw [lk_n z2] at K
            obtain ⟨S0, b0⟩ := hneg (by rw [z3]; decide)
            have ww : w = 1 := by
              rcases hw with ⟨h1, h2, _⟩ | ⟨h1, _⟩ | ⟨h1, _⟩ | ⟨_, h1⟩
              · omega
              · exact absurd z2 (sy_v _ hb h1).2.2.1
              · omega
              · exact h1
            have hh : ht (st (p + 1)) = 1 := by rw [z3]; decide
            refine ih S (!tr) υ _ (by omega) P2 l2 h4 (fun _ => ⟨S0, ?_⟩) (fun h => absurd (by rw [z1]; decide) h) ff K
            rw [hh, ww] at y3
            have y4 : υ 61 0 = stV τ (T p) 1 1 := y3
            rw [y4]
            unfold stV
            rw [z2, if_neg (by decide), if_neg (by decide), if_pos rfl, show (1 : Nat) - 1 = 0 from rfl, b0]
            cases tr <;> decide
          · -- equals
            rw [lk_q z2] at K
            have ww : w = 2 := by
              rcases hw with ⟨h1, h2, _⟩ | ⟨h1, _⟩ | ⟨_, h1⟩ | ⟨h1, _⟩
              · omega
              · exact absurd z2 (sy_v _ hb h1).2.1
              · exact h1
              · omega
            have hh : ht (st (p + 1)) = 2 := by rw [z3]; decide
            obtain ⟨hl3, hS⟩ := hpos (by rw [z3]; decide)
            rw [hh] at hl3
            rcases S with _ | ⟨a, _ | ⟨c, _ | ⟨d, S⟩⟩⟩
            · simp at hl3
            · simp at hl3
            · have a4 := h4 a (by simp)
              have c4 := h4 c (by simp)
              have ea : τ 61 1 = nI a := hS.1
              have ec : τ 61 0 = nI c := hS.2.1
              refine ih [] (decide (a = c)) υ _ (by omega) P2 l2 (fun _ h => by simp at h) (fun _ => ⟨rfl, ?_⟩) (fun h => absurd z1 h) ff K
              rw [hh, ww] at y3
              have y4 : υ 61 0 = stV τ (T p) 2 2 := y3
              rw [y4]
              unfold stV
              rw [z2, if_neg (by decide), if_pos rfl, show (2 : Nat) - 2 = 0 from rfl, show (2 : Nat) - 1 = 1 from rfl, ea, ec, if_neg (nI_pos (by omega)), if_neg (nI_pos (by omega))]
              by_cases e : a = c
              · rw [if_pos (by rw [e]), e]
                simp
                rfl
              · rw [if_neg (fun q => e ((nI_eq (by omega) (by omega)).mp q).symm), decide_eq_false e]
                rfl
            · simp at hl3
          · -- a predicate
            obtain ⟨n1, n2, n3, n4⟩ := sy_v _ hb z3
            have ww : w = w' := by
              rcases hw with ⟨h1, h2, _⟩ | ⟨h1, h2, h3⟩ | ⟨h1, _⟩ | ⟨h1, _⟩
              · exact absurd ⟨h1, h2⟩ n1
              · exact (nI_eq (by omega) (by omega)).mp (h3.symm.trans z5)
              · exact absurd h1 n2
              · exact absurd h1 n3
            subst ww
            have hh : ht (st (p + 1)) = w := by rw [z6]; exact ht_n (by omega)
            obtain ⟨hl3, hS⟩ := hpos (by rw [z6]; exact nI_pos (by omega))
            have ev1 : υ 61 (ht (st (p + 1)) - w) = dn (V (cel (sy (T p)) w S)) := by
              rw [y3]
              unfold stV
              rw [if_neg n1, if_neg n2, if_neg n3, ← hl3]
              exact ceR_k z3 z4 (by omega) (by omega) h4 hS VV2
            have c1 := cel_lt (w := w) z3 h4
            have v4 := (hV _ c1).2
            have v2 := hPr _ (by unfold cel; omega) c1
            by_cases v0 : V (cel (sy (T p)) w S) = 0
            · rw [lk_0 hb z3 z4 z5 v0] at K
              exact dead (by rw [ev1]; exact (dn_neg v4).mpr v0) K
            · rw [lk_1 hb z3 z4 z5 v0] at K
              refine ih (lkS V (sy (T p)) w S) (lkT V (sy (T p)) w S tr) υ _ (by omega) P2 l2 (lkS_4 h4 v4 v0) (fun _ => ⟨?_, ?_⟩) (fun h => absurd z1 h) ff K
              · unfold lkS
                rw [if_neg (by omega)]
                exact List.drop_eq_nil_of_le (by omega)
              · rw [hh, Nat.sub_self] at ev1
                rw [ev1]
                unfold lkT
                rw [if_neg (by omega)]
                rcases (by omega : V (cel (sy (T p)) w S) = 1 ∨ V (cel (sy (T p)) w S) = 2) with e | e <;> rw [e] <;> decide
          · -- a variable
            rw [lk_v z2] at K
            have ww : w = 0 := by
              rcases hw with ⟨_, _, h1⟩ | ⟨h1, _⟩ | ⟨h1, _⟩ | ⟨h1, _⟩
              · exact h1
              · exact absurd z2 (sy_v _ hb h1).1
              · omega
              · omega
            subst ww
            have hh : ht (st (p + 1)) = a := by rw [z4]; exact ht_n (by omega)
            obtain ⟨hl3, hS⟩ := hpos (by rw [z4]; exact nI_pos (by omega))
            have x3 := hX (T p - 120) (by omega)
            refine ih (X (T p - 120) :: S) tr υ _ (by omega) P2 l2 ?_ (fun h => absurd h (by rw [z3]; exact nI_pos (by omega))) (fun _ => ⟨?_, ?_, stk_of hS (fun t ht1 => y2 t (by omega))⟩) ff K
            · intro b hb2
              rcases List.mem_cons.mp hb2 with e | e
              · rw [e]; exact x3.2
              · exact h4 b e
            · rw [w2, Nat.sub_zero, ← hl3]
              rfl
            · rw [hl3]
              have y4 : υ 61 (ht (st (p + 1))) = _ := y3
              rw [y4]
              unfold stV
              rw [if_pos z2, f.1 59 (by decide) (by decide)]
              exact x3.1
          · -- a function
            have z8 : sy (T p) < 8 := by omega
            obtain ⟨n1, n2, n3, n4⟩ := sy_v _ hb z8
            have ww : w = w' := by
              rcases hw with ⟨h1, h2, _⟩ | ⟨h1, h2, h3⟩ | ⟨h1, _⟩ | ⟨h1, _⟩
              · exact absurd ⟨h1, h2⟩ n1
              · exact (nI_eq (by omega) (by omega)).mp (h3.symm.trans z4)
              · exact absurd h1 n2
              · exact absurd h1 n3
            subst ww
            have hh : ht (st (p + 1)) = a + w := by rw [z6]; exact ht_n (by omega)
            obtain ⟨hl3, hS⟩ := hpos (by rw [z6]; exact nI_pos (by omega))
            have ev1 : υ 61 (ht (st (p + 1)) - w) = dn (V (cel (sy (T p)) w S)) := by
              rw [y3]
              unfold stV
              rw [if_neg n1, if_neg n2, if_neg n3, ← hl3]
              exact ceR_k z8 z3 (by omega) (by omega) h4 hS VV2
            have c1 := cel_lt (w := w) z8 h4
            have v4 := (hV _ c1).2
            by_cases v0 : V (cel (sy (T p)) w S) = 0
            · rw [lk_0 hb z8 z3 z4 v0] at K
              exact dead (by rw [ev1]; exact (dn_neg v4).mpr v0) K
            · rw [lk_1 hb z8 z3 z4 v0] at K
              have el : lkS V (sy (T p)) w S = (V (cel (sy (T p)) w S) - 1) :: S.drop w := if_pos z2
              have ld : (S.drop w).length = a := by rw [List.length_drop]; omega
              have sd : ∀ (n : Nat) (R : List Nat) (g : Nat → Int32), stk g R → stk g (R.drop n) := by
                intro n
                induction n with
                | zero => exact fun R g h => h
                | succ n ihn =>
                  intro R g h
                  cases R with
                  | nil => exact h
                  | cons r R => exact ihn R g h.2
              refine ih (lkS V (sy (T p)) w S) (lkT V (sy (T p)) w S tr) υ _ (by omega) P2 l2 (lkS_4 h4 v4 v0) (fun h => absurd h (by rw [z5]; exact nI_pos (by omega))) (fun _ => ?_) ff K
              rw [el]
              refine ⟨?_, ?_, stk_of (sd w S _ hS) (fun t ht1 => y2 t (by omega))⟩
              · rw [List.length_cons, ld, z5, ht_n (by omega)]
              · rw [ld]
                have e : ht (st (p + 1)) - w = a := by omega
                rw [e] at ev1
                rw [ev1]
                exact dn_pos v0
  refine s_n_X8_isBroken_0 (fun τ1 e => ⟨inN hi (by decide), ?_⟩)
  have f1 : fP σ τ1 := by rw [e]; exact fP.rf.u50
  rw [nI_clamp (by omega), f1.1 54 (by decide) (by decide), h54]
  refine loop L [] false τ1 _ (Nat.le_refl _) ?_ ?_ (fun _ h => by simp at h) (fun h => absurd h (by rw [sL]; decide)) (fun _ => ⟨by rw [sL]; rfl, trivial⟩) f1 k
  · rw [sL, e]
    exact ⟨ab_upd_same _ _ _ _, by decide, fun t h => absurd h (by show ¬ t < 0; omega)⟩
  · rw [sL]
    exact Nat.zero_le _
end BF

def grF (R : Nat → Int32) (l : List Nat) (g : Int32) : Int32 := l.foldl (fun g c => ab_mm true g (R c)) g
def msF (R : Nat → Int32) (o : Option Nat) : Int32 := match o with
  | none => 128
  | some c => R c
def nm (x y z : Nat) (v : Nat) : Nat := if v = 0 then x else if v = 1 then y else z
theorem cd_sy : ∀ b, b < 256 → sy b < 8 → cd b = nI (sy b) := by decide +kernel
theorem cd_vv : ∀ b, b < 256 → 120 ≤ b ∧ b ≤ 122 → cd b - 8 = nI (b - 120) := by decide +kernel
section LKE
variable {V : Nat → Nat} {ar : Nat → Int32} {T X : Nat → Nat} {p : Nat} {S : List Nat} {tr : Bool}
theorem lk_v (h : 120 ≤ T p ∧ T p ≤ 122) : lk V ar T X (p + 1) S tr = lk V ar T X p (X (T p - 120) :: S) tr := if_pos h
theorem lk_q (h : T p = 61) : lk V ar T X (p + 1) S tr = lk V ar T X p S.tail.tail (decide (S.headD 0 = S.tail.headD 0)) := (if_neg (by omega)).trans (if_pos h)
theorem lk_n (h : T p = 33) : lk V ar T X (p + 1) S tr = lk V ar T X p S (!tr) := (if_neg (by omega)).trans ((if_neg (by omega)).trans (if_pos h))
theorem lk_o (h : T p = 124) : lk V ar T X (p + 1) S tr = bif tr then (false, [], none) else lk V ar T X p S tr := (if_neg (by omega)).trans ((if_neg (by omega)).trans ((if_neg (by omega)).trans (if_pos h)))
theorem lk_0 {w : Nat} (hb : T p < 256) (h : sy (T p) < 8) (hw : w ≤ 2) (ha : ar (sy (T p)) = nI w) (h0 : V (cel (sy (T p)) w S) = 0) : lk V ar T X (p + 1) S tr = (false, [], some (cel (sy (T p)) w S)) := by
  obtain ⟨n1, n2, n3, n4⟩ := sy_v _ hb h
  have e : wn (ar (sy (T p))) = w := by rw [ha]; exact wn_n hw
  show ite _ _ _ = _
  rw [if_neg n1, if_neg n2, if_neg n3, if_neg n4, e, if_pos h0]
theorem lk_1 {w : Nat} (hb : T p < 256) (h : sy (T p) < 8) (hw : w ≤ 2) (ha : ar (sy (T p)) = nI w) (h0 : ¬ V (cel (sy (T p)) w S) = 0) : lk V ar T X (p + 1) S tr = ((lk V ar T X p (lkS V (sy (T p)) w S) (lkT V (sy (T p)) w S tr)).1, cel (sy (T p)) w S :: (lk V ar T X p (lkS V (sy (T p)) w S) (lkT V (sy (T p)) w S tr)).2.1, (lk V ar T X p (lkS V (sy (T p)) w S) (lkT V (sy (T p)) w S tr)).2.2) := by
  obtain ⟨n1, n2, n3, n4⟩ := sy_v _ hb h
  have e : wn (ar (sy (T p))) = w := by rw [ha]; exact wn_n hw
  show ite _ _ _ = _
  rw [if_neg n1, if_neg n2, if_neg n3, if_neg n4, e, if_neg h0]
end LKE
theorem lkS_4 {V : Nat → Nat} {s w : Nat} {S : List Nat} (h4 : ∀ x ∈ S, x < 4) (hV : V (cel s w S) ≤ 4) (h0 : ¬ V (cel s w S) = 0) : ∀ x ∈ lkS V s w S, x < 4 := by
  intro x hx
  unfold lkS at hx
  split at hx
  · rcases List.mem_cons.mp hx with e | e
    · omega
    · exact h4 x (List.mem_of_mem_drop e)
  · exact h4 x (List.mem_of_mem_drop hx)
theorem cel_lt {s w : Nat} {S : List Nat} (hs : s < 8) (h4 : ∀ x ∈ S, x < 4) : cel s w S < 128 := by
  have hd : ∀ S : List Nat, (∀ x ∈ S, x < 4) → S.headD 0 < 4 := by
    intro S h
    cases S with
    | nil => decide
    | cons a S => exact h a (by simp)
  have h1 := hd S h4
  have h2 := hd S.tail (fun x hx => h4 x (List.mem_of_mem_tail hx))
  unfold cel
  split <;> split <;> omega
section IBF
variable {σ : ab_M} {Q : Option ab_V → ab_M → Prop}
theorem ib_f {V : Nat → Nat} {T : Nat → Nat} {L q x y z : Nat} (hcl : Cl q) (hL : L ≤ 60) (hK : Kp q T L σ) (hT : ∀ t, t < L → T t < 256) (har : ∀ j, j < 8 → arok (σ 2 j)) (hau : aur (σ 2) T L 0 (-2) = none) (hV : VVc V σ) (hx : x < 4) (hy : y < 4) (hz : z < 4)
    (k : ∀ τ, fL σ τ → τ 42 6 = grF (σ 40) (lk V (σ 2) T (nm x y z) L [] false).2.1 (-1) → τ 42 7 = msF (σ 40) (lk V (σ 2) T (nm x y z) L [] false).2.2 → Q (some (.inl (bI (lk V (σ 2) T (nm x y z) L [] false).1))) τ) : evm mX3_isBroken [.inr (.inr 42), .inr (.inr q), .inl (nI x), .inl (nI y), .inl (nI z)] σ Q := by
  obtain ⟨st, s0, sL, ss⟩ := aur_st har L 0 (-2) (by omega) (Or.inl rfl) hau
  rw [Nat.zero_add] at sL
  obtain ⟨c0, c1, c2⟩ := Cl_sh hcl
  have hq : q < 37 := by obtain ⟨i, h1, h2⟩ := hcl; omega
  have nm4 : ∀ v, nm x y z v < 4 := by
    intro v
    unfold nm
    split
    · exact hx
    · split
      · exact hy
      · exact hz
  have loop : ∀ (p : Nat) (S : List Nat) (tr : Bool) (g : Int32) (τ : ab_M) (o6 : Option ab_V), p ≤ L → S.length = hc (st p) → S.length ≤ L - p → (∀ a ∈ S, a < 4) → LSt S tr τ → τ 42 6 = g → τ 42 7 = 128 → (∀ v, v < 3 → τ 43 v = nI (nm x y z v)) → fL σ τ → (∀ υ, fL σ υ → υ 42 6 = grF (σ 40) (lk V (σ 2) T (nm x y z) p S tr).2.1 g → υ 42 7 = msF (σ 40) (lk V (σ 2) T (nm x y z) p S tr).2.2 → Q (some (.inl (bI (lk V (σ 2) T (nm x y z) p S tr).1))) υ) → ev mX3_isBroken 34 [some (.inr (.inr 42)), some (.inr (.inr q)), some (.inl (nI x)), some (.inl (nI y)), some (.inl (nI z)), some (.inl (dn p)), o6] [] τ Q := by
    intro p
    induction p with
    | zero =>
      intro S tr g τ o6 hp hl hl2 h4 hS h6 h7 hn f K
      have K1 := K τ f h6 h7
      refine s_X3_isBroken_34 c0 c1 c2 ⟨fun _ => ?_, fun q => absurd dn_0 q⟩
      rw [hS.2.2.2]
      cases tr with
      | false => exact ⟨fun _ => K1, fun q => absurd rfl q⟩
      | true => exact ⟨fun q => absurd q (by decide), fun _ => K1⟩
    | succ p ih =>
      intro S tr g τ o6 hp hl hl2 h4 hS h6 h7 hn f K
      obtain ⟨e1, e2⟩ := ss p (by omega) (by omega)
      have hb := hT p (by omega)
      have hk := au_k har (by omega) hb e2 e1
      refine s_X3_isBroken_34 c0 c1 c2 ⟨fun q => absurd q (by rw [dn_s]; exact nI_pos (by omega)), fun _ => ?_⟩
      rw [dn_s, dn_m]
      refine s_X1_codeAt_0 c0 c1 c2 ⟨fun q => absurd q (nI_pos (by omega)), fun _ => ⟨fun _ => ⟨inN (by omega) (by decide), _, rfl, ?_⟩, fun q2 => absurd (by rw [f q (by omega), hK.1]; exact nI_lt (by omega) (by omega)) q2⟩⟩
      rw [nI_clamp (by omega), f (q + 1) (by omega), hK.2.1 p (by omega)]
      refine iv_ok hb ⟨_, rfl, ?_⟩
      rcases hk with ⟨z1, z2, z3⟩ | ⟨z1, z2, z3⟩ | ⟨z1, z2, z3⟩ | ⟨w, z1, z2, z3, z4, z5, z6⟩ | ⟨a, z1, z2, z3, z4⟩ | ⟨a, w, z1, z2, z3, z4, z5, z6⟩
      · -- or
        rw [lk_o z2] at K
        rw [z2, if_neg (by omega)]
        refine ⟨fun _ => ⟨fun q => absurd q (by decide), fun _ => ⟨fun q => absurd q (by decide), fun _ => ⟨fun _ => ?_, fun q => absurd (by decide) q⟩⟩⟩, fun q => absurd rfl q⟩
        rw [hS.2.2.2]
        rw [z3, hc_neg (by decide)] at hl
        cases tr with
        | false => exact ⟨fun _ => ih S false g τ _ (by omega) (by rw [hl, z1]; decide) (by omega) h4 hS h6 h7 hn f K, fun q => absurd rfl q⟩
        | true => exact ⟨fun q => absurd q (by decide), fun _ => K τ f h6 h7⟩
      · -- not
        rw [lk_n z2] at K
        rw [z2, if_neg (by omega)]
        refine ⟨fun _ => ⟨fun q => absurd q (by decide), fun _ => ⟨fun _ => ?_, fun q => absurd (by decide) q⟩⟩, fun q => absurd rfl q⟩
        rw [hS.2.2.2]
        rw [z3, hc_neg (by decide)] at hl
        have go : ∀ t : Bool, t = !tr → ev mX3_isBroken 34 [some (.inr (.inr 42)), some (.inr (.inr q)), some (.inl (nI x)), some (.inl (nI y)), some (.inl (nI z)), some (.inl (dn p)), some (.inl (cd 33))] [] (ab_upd τ 42 5 (bI t)) Q := by
          intro t ht
          subst ht
          exact ih S (!tr) g _ _ (by omega) (by rw [hl, z1]; decide) (by omega) h4 ⟨by rw [ab_upd_eq, if_neg (by decide)]; exact hS.1, hS.2.1, by rw [ab_upd_off _ _ (by decide)]; exact hS.2.2.1, ab_upd_same _ _ _ _⟩ (by rw [ab_upd_eq, if_neg (by decide)]; exact h6) (by rw [ab_upd_eq, if_neg (by decide)]; exact h7) (by rw [ab_upd_off _ _ (by decide)]; exact hn) (f.up (by omega)) K
        cases tr with
        | false => exact ⟨fun _ => go true rfl, fun q => absurd rfl q⟩
        | true => exact ⟨fun q => absurd q (by decide), fun _ => go false rfl⟩
      · -- equals
        rw [lk_q z2] at K
        rw [z2, if_neg (by omega)]
        rw [z3, hc_n (by decide)] at hl
        rcases S with _ | ⟨a, _ | ⟨c, _ | ⟨d, S⟩⟩⟩
        · simp at hl
        · simp at hl
        · refine ⟨fun _ => ⟨fun _ => po_f hS (fun υ hu gu => ⟨_, rfl, po_f hu (fun ω hw gw => ⟨_, rfl, ?_⟩)⟩), fun q => absurd (by decide) q⟩, fun q => absurd rfl q⟩
          have gg := gu.tr gw
          have a4 := h4 a (by simp)
          have c4 := h4 c (by simp)
          have go : ∀ t : Bool, t = decide (a = c) → ev mX3_isBroken 34 [some (.inr (.inr 42)), some (.inr (.inr q)), some (.inl (nI x)), some (.inl (nI y)), some (.inl (nI z)), some (.inl (dn p)), some (.inl (cd 61))] [] (ab_upd ω 42 5 (bI t)) Q := by
            intro t ht
            subst ht
            exact ih [] (decide (a = c)) g _ _ (by omega) (by rw [hc_neg z1]; rfl) (by simp) (fun _ h => by simp at h) ⟨by rw [ab_upd_eq, if_neg (by decide)]; exact hw.1, hw.2.1, by rw [ab_upd_off _ _ (by decide)]; exact hw.2.2.1, ab_upd_same _ _ _ _⟩ (by rw [ab_upd_eq, if_neg (by decide), gg.2.1]; exact h6) (by rw [ab_upd_eq, if_neg (by decide), gg.2.2.1]; exact h7) (by rw [ab_upd_off _ _ (by decide), gg.2.2.2]; exact hn) ((f.tr gg.1).up (by omega)) K
          have ne : nI a = nI c ↔ a = c := nI_eq (by omega) (by omega)
          exact ⟨fun e => go true (decide_eq_true (ne.mp e)).symm, fun e => go false (decide_eq_false (fun e2 => e (ne.mpr e2))).symm⟩
        · simp at hl
      · -- a predicate
        have nv := sy_v _ hb z3
        rw [if_neg nv.1, cd_sy _ hb z3]
        rw [z6, hc_n (by omega)] at hl
        have lit : ∀ c : Nat, 8 ≤ c → c < 2 ^ 31 → ¬ nI (sy (T p)) = nI c := fun c h1 h2 e => by have := (nI_eq (by omega) h2).mp e; omega
        refine ⟨fun _ => ⟨fun q => absurd q (lit 11 (by omega) (by decide)), fun _ => ⟨fun q => absurd q (lit 12 (by omega) (by decide)), fun _ => ⟨fun q => absurd q (lit 13 (by omega) (by decide)), fun _ => ?_⟩⟩⟩, fun q => absurd rfl q⟩
        have hV2 : VVc V τ := fun k hk => by rw [f 38 (by omega)]; exact hV k hk
        refine rc_f z3 z4 (by rw [f 2 (by omega)]; exact z5) (by omega) h4 hS (fun q => by omega) hV2 (fun v0 υ fu u6 u7 => ⟨_, rfl, fun _ => ?_, fun q => absurd rfl q⟩) (fun v0 υ fu uS u6 u7 u43 => ⟨_, rfl, fun q => absurd q (by decide), fun _ => ?_⟩)
        · rw [lk_0 hb z3 z4 z5 v0] at K
          exact K υ (f.tr fu) (by rw [u6]; exact h6) (by rw [u7, f 40 (by omega)]; rfl)
        · rw [lk_1 hb z3 z4 z5 v0] at K
          have v4 := (hV _ (cel_lt (w := w) z3 h4)).2
          refine ih _ _ _ υ _ (by omega) ?_ ?_ (lkS_4 h4 v4 v0) uS (by rw [u6, h6, f 40 (by omega)]) (by rw [u7]; exact h7) (by rw [u43]; exact hn) (f.tr fu) K
          · unfold lkS
            rw [if_neg (by omega), List.length_drop, hc_neg z1]
            omega
          · unfold lkS
            rw [if_neg (by omega), List.length_drop]
            omega
      · -- a variable
        rw [lk_v z2] at K
        rw [if_pos z2]
        rw [z4, hc_n (by omega)] at hl
        refine ⟨fun q => absurd q (by decide), fun _ => ?_⟩
        rw [cd_vv _ hb z2, nI_clamp (by omega), hn _ (by omega)]
        refine ⟨inN (by omega) (by decide), pu_f hS (by omega) (fun υ hu gu => ⟨rfl, ?_⟩)⟩
        refine ih _ tr g υ _ (by omega) ?_ ?_ ?_ hu (by rw [gu.2.1]; exact h6) (by rw [gu.2.2.1]; exact h7) (by rw [gu.2.2.2]; exact hn) (f.tr gu.1) K
        · rw [z3, hc_n (by omega)]
          simp
          exact hl
        · simp
          omega
        · intro b hb2
          rcases List.mem_cons.mp hb2 with e | e
          · rw [e]; exact nm4 _
          · exact h4 b e
      · -- a function
        have z8 : sy (T p) < 8 := by omega
        have nv := sy_v _ hb z8
        rw [if_neg nv.1, cd_sy _ hb z8]
        rw [z6, hc_n (by omega)] at hl
        have lit : ∀ c : Nat, 8 ≤ c → c < 2 ^ 31 → ¬ nI (sy (T p)) = nI c := fun c h1 h2 e => by have := (nI_eq (by omega) h2).mp e; omega
        refine ⟨fun _ => ⟨fun q => absurd q (lit 11 (by omega) (by decide)), fun _ => ⟨fun q => absurd q (lit 12 (by omega) (by decide)), fun _ => ⟨fun q => absurd q (lit 13 (by omega) (by decide)), fun _ => ?_⟩⟩⟩, fun q => absurd rfl q⟩
        have hV2 : VVc V τ := fun k hk => by rw [f 38 (by omega)]; exact hV k hk
        refine rc_f z8 z3 (by rw [f 2 (by omega)]; exact z4) (by omega) h4 hS (fun q => by omega) hV2 (fun v0 υ fu u6 u7 => ⟨_, rfl, fun _ => ?_, fun q => absurd rfl q⟩) (fun v0 υ fu uS u6 u7 u43 => ⟨_, rfl, fun q => absurd q (by decide), fun _ => ?_⟩)
        · rw [lk_0 hb z8 z3 z4 v0] at K
          exact K υ (f.tr fu) (by rw [u6]; exact h6) (by rw [u7, f 40 (by omega)]; rfl)
        · rw [lk_1 hb z8 z3 z4 v0] at K
          have v4 := (hV _ (cel_lt (w := w) z8 h4)).2
          refine ih _ _ _ υ _ (by omega) ?_ ?_ (lkS_4 h4 v4 v0) uS (by rw [u6, h6, f 40 (by omega)]) (by rw [u7]; exact h7) (by rw [u43]; exact hn) (f.tr fu) K
          · unfold lkS
            rw [if_pos z2, z5, hc_n (by omega)]
            simp
            omega
          · unfold lkS
            rw [if_pos z2]
            simp
            omega
  refine s_X3_isBroken_0 c0 c1 c2 (s_X3_forgetLatest_0 ⟨rfl, by decide, by decide, by decide, s_X1_length_0 c0 c1 c2 ⟨_, rfl, ?_⟩⟩)
  have fq : fL σ (ab_upd (ab_upd (ab_upd (ab_upd (ab_upd (ab_upd (ab_upd σ 42 4 0) 42 5 0) 42 6 (-1)) 42 7 128) 43 (0 : Int32).toNatClampNeg (nI x)) 43 (1 : Int32).toNatClampNeg (nI y)) 43 (2 : Int32).toNatClampNeg (nI z)) := ((((((fL.rf.up (by omega)).up (by omega)).up (by omega)).up (by omega)).up (by omega)).up (by omega)).up (by omega)
  have e42 : ∀ t, (ab_upd (ab_upd (ab_upd (ab_upd (ab_upd (ab_upd (ab_upd σ 42 4 0) 42 5 0) 42 6 (-1)) 42 7 128) 43 (0 : Int32).toNatClampNeg (nI x)) 43 (1 : Int32).toNatClampNeg (nI y)) 43 (2 : Int32).toNatClampNeg (nI z)) 42 t = (ab_upd (ab_upd (ab_upd (ab_upd σ 42 4 0) 42 5 0) 42 6 (-1)) 42 7 128) 42 t := fun t => by rw [ab_upd_off _ _ (by decide), ab_upd_off _ _ (by decide), ab_upd_off _ _ (by decide)]
  rw [fq q (by omega), hK.1]
  refine loop L [] false (-1) _ _ (Nat.le_refl _) (by rw [sL]; rfl) (by simp) (fun _ h => by simp at h) ⟨?_, by simp, trivial, ?_⟩ ?_ ?_ (fun v hv => ?_) fq k
  · rw [e42, ab_upd_eq, if_neg (by decide), ab_upd_eq, if_neg (by decide), ab_upd_eq, if_neg (by decide), ab_upd_same]; rfl
  · rw [e42, ab_upd_eq, if_neg (by decide), ab_upd_eq, if_neg (by decide), ab_upd_same]; rfl
  · rw [e42, ab_upd_eq, if_neg (by decide), ab_upd_same]
  · rw [e42, ab_upd_same]
  · rcases (by omega : v = 0 ∨ v = 1 ∨ v = 2) with rfl | rfl | rfl
    · rw [ab_upd_eq, if_neg (by decide), ab_upd_eq, if_neg (by decide)]
      exact ab_upd_same _ _ _ _
    · rw [ab_upd_eq, if_neg (by decide)]
      exact ab_upd_same _ _ _ _
    · exact ab_upd_same _ _ _ _
end IBF

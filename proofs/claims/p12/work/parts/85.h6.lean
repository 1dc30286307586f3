/-! the class's looks at all instances, with what it keeps of the latest ones -/
def chz (T : Nat → Nat) (L v n : Nat) : Nat := bif hasv T L v then n else 1
/-- the clauses' texts on the class's side -/
def CT (m : Nat) (Lc : Nat → Nat) (Tc : Nat → Nat → Nat) (σ : ab_M) : Prop := m ≤ 8 ∧ σ 5 1 = nI m ∧ ∀ i, i < m → Lc i ≤ 60 ∧ Kp (7 + 3 * i) (Tc i) (Lc i) σ ∧ (∀ t, t < Lc i → Tc i t < 256) ∧ aur (σ 2) (Tc i) (Lc i) 0 (-2) = none
def vld (m : Nat) (Lc : Nat → Nat) (Tc : Nat → Nat → Nat) (n i x y z : Nat) : Prop := i < m ∧ x < chz (Tc i) (Lc i) 0 n ∧ y < chz (Tc i) (Lc i) 1 n ∧ z < chz (Tc i) (Lc i) 2 n
def brk (ar : Nat → Int32) (Lc : Nat → Nat) (Tc : Nat → Nat → Nat) (i x y z : Nat) (V : Nat → Nat) : Bool := (lk V ar (Tc i) (nm x y z) (Lc i) [] false).1
def ins (i x y z : Nat) : Nat := ((i * 4 + x) * 4 + y) * 4 + z
/-- the order of the cells of a size -/
def OK (ar : Nat → Int32) (n : Nat) (ord : Nat → Nat) (c : Nat) : Prop := c ≤ 128 ∧ (∀ k, k < c → Ld ar n (ord k)) ∧ (∀ a, Ld ar n a → ∃ k, k < c ∧ ord k = a) ∧ (∀ k j, k < c → j < c → ord k = ord j → k = j)
def OC (n : Nat) (ord : Nat → Nat) (c : Nat) (σ : ab_M) : Prop := σ 37 4 = nI n ∧ σ 37 5 = nI c ∧ ∀ k, k < c → σ 39 k = nI (ord k) ∧ σ 40 (ord k) = nI k
/-- a table with values at the first ranks alone, in their bounds -/
def Vr (n : Nat) (ord : Nat → Nat) (c r : Nat) (V : Nat → Nat) : Prop := (∀ k, k < c → (V (ord k) ≠ 0 ↔ k < r)) ∧ (∀ a, a < 64 → V a ≤ n) ∧ (∀ a, 64 ≤ a → a < 128 → V a ≤ 2)
def jp (ord : Nat → Nat) (c : Nat) (V : Nat → Nat) (r g ms : Nat) (B : (Nat → Nat) → Bool) : Prop := r ≤ ms ∧ (ms < 128 → ms < c) ∧ (g ≤ r → ∀ V' : Nat → Nat, (∀ k, k < g → k < c → V' (ord k) = V (ord k)) → (ms < 128 → V' (ord ms) = 0) → B V' = false)
def rec (I g ms : Nat) (σ : ab_M) : Prop := g ≤ 128 ∧ ms ≤ 128 ∧ σ 46 I = dn g ∧ σ 47 I = nI ms
def CA (σ : ab_M) : Prop := ∀ I, I < 512 → ∃ g ms, rec I g ms σ
theorem gr_fold {R : Nat → Int32} {rk : Nat → Nat} : ∀ (l : List Nat) (g : Nat), g ≤ 128 → (∀ c ∈ l, R c = nI (rk c) ∧ rk c < 128) → ∃ G, G ≤ 128 ∧ g ≤ G ∧ grF R l (dn g) = dn G ∧ ∀ c ∈ l, rk c < G := by
  intro l
  induction l with
  | nil => exact fun g hg _ => ⟨g, hg, Nat.le_refl _, rfl, fun c hc => by simp at hc⟩
  | cons a l ih =>
    intro g hg h
    obtain ⟨h1, h2⟩ := h a (by simp)
    have e : ab_mm true (dn g) (R a) = dn (max g (rk a + 1)) := by
      rw [h1, ← dn_s]
      show (if dn g < dn (rk a + 1) then dn (rk a + 1) else dn g) = _
      have l1 : dn g < dn (rk a + 1) ↔ g < rk a + 1 := by
        rw [Int32.lt_iff_toInt_lt]
        have t : ∀ j, j ≤ 129 → (dn j).toInt = (j : Int) - 1 := by
          intro j hj
          unfold dn
          rw [i32_sub (by rw [li_1, nI_toInt (by omega)]; omega) (by rw [li_1, nI_toInt (by omega)]; omega), li_1, nI_toInt (by omega)]
        rw [t g (by omega), t (rk a + 1) (by omega)]
        omega
      by_cases q : g < rk a + 1
      · rw [if_pos (l1.mpr q)]
        congr 1
        omega
      · rw [if_neg (fun q2 => q (l1.mp q2))]
        congr 1
        omega
    obtain ⟨G, g1, g2, g3, g4⟩ := ih (max g (rk a + 1)) (by omega) (fun c hc => h c (List.mem_cons_of_mem _ hc))
    refine ⟨G, g1, by omega, ?_, fun c hc => ?_⟩
    · show grF R l (ab_mm true (dn g) (R a)) = _
      rw [e]
      exact g3
    · rcases List.mem_cons.mp hc with q | q
      · rw [q]; omega
      · exact g4 c q
theorem dn_le2 {a b : Nat} (ha : a ≤ 129) (hb : b ≤ 129) : dn a ≤ dn b ↔ a ≤ b := by
  have t : ∀ j, j ≤ 129 → (dn j).toInt = (j : Int) - 1 := by
    intro j hj
    unfold dn
    rw [i32_sub (by rw [li_1, nI_toInt (by omega)]; omega) (by rw [li_1, nI_toInt (by omega)]; omega), li_1, nI_toInt (by omega)]
  rw [Int32.le_iff_toInt_le, t a ha, t b hb]
  omega
theorem dn_lt2 {a b : Nat} (ha : a ≤ 129) (hb : b ≤ 128) : dn a < nI b ↔ a ≤ b := by
  rw [← dn_s]
  have := dn_le2 (a := b + 1) (b := a) (by omega) ha
  rw [Int32.le_iff_toInt_le] at this
  rw [Int32.lt_iff_toInt_lt]
  omega
section SBF
variable {σ : ab_M} {Q : Option ab_V → ab_M → Prop}
theorem ch_f {T : Nat → Nat} {L n q v : Nat} (hcl : Cl q) (hv : v < 3) (hK : Kp q T L σ) (k : Q (some (.inl (nI (chz T L v n)))) σ) : evm mX1_choices [.inr (.inr q), .inl (nI v), .inl (nI n)] σ Q := by
  obtain ⟨c0, c1, c2⟩ := Cl_sh hcl
  refine s_X1_choices_0 c0 c1 c2 ⟨fun h => absurd h (nI_pos (by omega)), fun _ => ⟨fun h => absurd h (nI_ge (b := 3) hv (by decide)), fun _ => ⟨inN hv (by decide), ?_⟩⟩⟩
  rw [nI_clamp (by omega), hK.2.2 v hv]
  unfold chz at k
  revert k
  cases hasv T L v with
  | false => exact fun k => ⟨fun _ => k, fun h => absurd rfl h⟩
  | true => exact fun k => ⟨fun h => absurd h (by decide), fun _ => k⟩
/-- a look that did not break leaves a good record -/
theorem fresh {V : Nat → Nat} {ar : Nat → Int32} {n c r : Nat} {ord : Nat → Nat} {Lc : Nat → Nat} {Tc : Nat → Nat → Nat} {m i x y z : Nat} (har : ∀ j, j < 8 → arok (ar j)) (n1 : 1 ≤ n) (n4 : n ≤ 4) (hO : OK ar n ord c) (hV : Vr n ord c r V) (hr : r ≤ c) (hL : Lc i ≤ 60) (hT : ∀ t, t < Lc i → Tc i t < 256) (hau : aur ar (Tc i) (Lc i) 0 (-2) = none) (hv : vld m Lc Tc n i x y z) (R : Nat → Int32) (hR : ∀ k, k < c → R (ord k) = nI k) (hb : brk ar Lc Tc i x y z V = false) :
    ∃ g ms, g ≤ 128 ∧ ms ≤ 128 ∧ grF R (lk V ar (Tc i) (nm x y z) (Lc i) [] false).2.1 (-1) = dn g ∧ msF R (lk V ar (Tc i) (nm x y z) (Lc i) [] false).2.2 = nI ms ∧ jp ord c V r g ms (brk ar Lc Tc i x y z) := by
  obtain ⟨c128, o1, o2, o3⟩ := hO
  obtain ⟨st, s0, sL, ss⟩ := aur_st har (Lc i) 0 (-2) (by omega) (Or.inl rfl) hau
  rw [Nat.zero_add] at sL
  have cz : ∀ v, chz (Tc i) (Lc i) v n ≤ n := by
    intro v
    unfold chz
    cases hasv (Tc i) (Lc i) v with
    | false => exact n1
    | true => exact Nat.le_refl _
  have hX : ∀ v, v < 3 → nm x y z v < n := by
    intro v hv3
    have a := cz 0
    have b := cz 1
    have d := cz 2
    obtain ⟨_, q1, q2, q3⟩ := hv
    unfold nm
    split
    · omega
    · split <;> omega
  obtain ⟨i1, i2⟩ := lk_in (V := V) (X := nm x y z) (st := fun _ => 0) (q := st) har hL hT (fun p hp => ss p (by omega) (by omega)) hX hV.2.1 n4 (Lc i) [] false (Nat.le_refl _) (by rw [sL]; rfl) (fun _ h => by simp at h)
  have rkE : ∃ rk : Nat → Nat, ∀ a, Ld ar n a → rk a < c ∧ ord (rk a) = a := by
    have ex : ∀ a, ∃ k, Ld ar n a → k < c ∧ ord k = a := by
      intro a
      by_cases h : Ld ar n a
      · obtain ⟨k, hk⟩ := o2 a h
        exact ⟨k, fun _ => hk⟩
      · exact ⟨0, fun q => absurd q h⟩
    exact ⟨fun a => Classical.choose (ex a), fun a => Classical.choose_spec (ex a)⟩
  obtain ⟨rk, hrk⟩ := rkE
  have hl : ∀ a ∈ (lk V ar (Tc i) (nm x y z) (Lc i) [] false).2.1, R a = nI (rk a) ∧ rk a < 128 := by
    intro a ha
    obtain ⟨k1, k2⟩ := hrk a (i1 a ha).1
    have := hR (rk a) k1
    rw [k2] at this
    exact ⟨this, by omega⟩
  obtain ⟨G, g1, _, g3, g4⟩ := gr_fold (R := R) (rk := rk) _ 0 (by omega) hl
  have loc : ∀ V' : Nat → Nat, (∀ k, k < G → k < c → V' (ord k) = V (ord k)) → (∀ a, (lk V ar (Tc i) (nm x y z) (Lc i) [] false).2.2 = some a → V' a = 0) → brk ar Lc Tc i x y z V' = false := by
    intro V' h1 h2
    unfold brk at hb ⊢
    rw [lk_loc (Lc i) [] false (fun a ha => ?_) h2]
    · exact hb
    · obtain ⟨k1, k2⟩ := hrk a (i1 a ha).1
      have := h1 (rk a) (g4 a ha) k1
      rw [k2] at this
      exact this
  cases e : (lk V ar (Tc i) (nm x y z) (Lc i) [] false).2.2 with
  | none =>
    refine ⟨G, 128, g1, Nat.le_refl _, g3, rfl, by omega, fun h => by omega, fun _ V' h1 _ => loc V' h1 (fun a ha => ?_)⟩
    rw [e] at ha
    cases ha
  | some a =>
    obtain ⟨l1, l2⟩ := i2 a e
    obtain ⟨k1, k2⟩ := hrk a l1
    refine ⟨G, rk a, g1, by omega, g3, ?_, ?_, fun _ => k1, fun _ V' h1 h2 => loc V' h1 (fun b hb2 => ?_)⟩
    · show R a = _
      have := hR (rk a) k1
      rw [k2] at this
      exact this
    · rcases Nat.lt_or_ge (rk a) r with q | q
      · have := (hV.1 (rk a) k1).mpr q
        rw [k2] at this
        exact absurd l2 this
      · exact q
    · rw [e] at hb2
      cases hb2
      have := h2 (by omega)
      rw [k2] at this
      exact this
end SBF

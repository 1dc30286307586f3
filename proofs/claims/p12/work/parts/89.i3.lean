section AG
variable {ar : Nat → Int32} {ord : Nat → Nat} {Lc : Nat → Nat} {Tc : Nat → Nat → Nat} {m n c : Nat}
/-- the symbols of the cells that a look meets stand in the text -/
theorem lk_sy {V : Nat → Nat} {T X : Nat → Nat} {L : Nat} {q : Nat → Int32} (har : ∀ j, j < 8 → arok (ar j)) (hL : L ≤ 60) (hT : ∀ t, t < L → T t < 256) (hst : ∀ p, p < L → au ar (q p) (T p) = some (q (p + 1)) ∧ sok p (q p)) (hX : ∀ v, v < 3 → X v < 4) (hV : ∀ a, a < 128 → V a ≤ 4) : ∀ (p : Nat) (S : List Nat) (tr : Bool), p ≤ L → S.length = hc (q p) → (∀ x ∈ S, x < 4) → (∀ a, (a ∈ (lk V ar T X p S tr).2.1 ∨ (lk V ar T X p S tr).2.2 = some a) → ∃ t, t < L ∧ sy (T t) < 8 ∧ a / 16 = sy (T t)) := by
  intro p
  induction p with
  | zero => exact fun S tr _ _ _ a ha => by simp [lk] at ha
  | succ p ih =>
    intro S tr hp hl hS
    obtain ⟨e1, e2⟩ := hst p (by omega)
    have hb := hT p (by omega)
    have hk := au_k har (by omega) hb e2 e1
    have c16 : ∀ s w, cel s w S / 16 = s := by
      intro s w
      have hd : ∀ S : List Nat, (∀ x ∈ S, x < 4) → S.headD 0 < 4 := by
        intro S h
        cases S with
        | nil => decide
        | cons a S => exact h a (by simp)
      have h1 := hd S hS
      have h2 := hd S.tail (fun x hx => hS x (List.mem_of_mem_tail hx))
      unfold cel
      split <;> split <;> omega
    have sym : ∀ w, sy (T p) < 8 → w ≤ 2 → ar (sy (T p)) = nI w → (¬ V (cel (sy (T p)) w S) = 0 → (lkS V (sy (T p)) w S).length = hc (q p)) → (∀ a, (a ∈ (lk V ar T X (p + 1) S tr).2.1 ∨ (lk V ar T X (p + 1) S tr).2.2 = some a) → ∃ t, t < L ∧ sy (T t) < 8 ∧ a / 16 = sy (T t)) := by
      intro w s8 w2 ha hn a
      by_cases v0 : V (cel (sy (T p)) w S) = 0
      · rw [lk_0 hb s8 w2 ha v0]
        intro h
        rcases h with h | h
        · simp at h
        · cases h
          exact ⟨p, by omega, s8, c16 _ _⟩
      · rw [lk_1 hb s8 w2 ha v0]
        intro h
        rcases h with h | h
        · rcases List.mem_cons.mp h with e | e
          · rw [e]; exact ⟨p, by omega, s8, c16 _ _⟩
          · exact ih _ _ (by omega) (hn v0) (lkS_4 hS (hV _ (cel_lt s8 hS)) v0) a (Or.inl e)
        · exact ih _ _ (by omega) (hn v0) (lkS_4 hS (hV _ (cel_lt s8 hS)) v0) a (Or.inr h)
    rcases hk with ⟨z1, z2, z3⟩ | ⟨z1, z2, z3⟩ | ⟨z1, z2, z3⟩ | ⟨w, z1, z2, z3, z4, z5, z6⟩ | ⟨a, z1, z2, z3, z4⟩ | ⟨a, w, z1, z2, z3, z4, z5, z6⟩
    · rw [lk_o z2]
      cases tr with
      | true => exact fun a h => by simp at h
      | false => exact ih S false (by omega) (by rw [hl, z3, z1]; decide) hS
    · rw [lk_n z2]
      exact ih S _ (by omega) (by rw [hl, z3, z1]; decide) hS
    · rw [lk_q z2]
      refine ih _ _ (by omega) ?_ (fun x hx => hS x (List.mem_of_mem_tail (List.mem_of_mem_tail hx)))
      rw [hc_neg z1, List.length_tail, List.length_tail, hl, z3, hc_n (by decide)]
    · rw [z6, hc_n (by omega)] at hl
      refine sym w z3 z4 z5 (fun v0 => ?_)
      unfold lkS
      rw [if_neg (by omega), List.length_drop, hc_neg z1]
      omega
    · rw [lk_v z2]
      rw [z4, hc_n (by omega)] at hl
      refine ih _ _ (by omega) (by rw [List.length_cons, hl, z3, hc_n (by omega)]) (fun x hx => ?_)
      rcases List.mem_cons.mp hx with e | e
      · rw [e]; exact hX _ (by omega)
      · exact hS x e
    · rw [z6, hc_n (by omega)] at hl
      refine sym w (by omega) z3 z4 (fun v0 => ?_)
      unfold lkS
      rw [if_pos z2, List.length_cons, List.length_drop, z5, hc_n (by omega)]
      omega
/-- the clauses' texts, with no side -/
def TX (ar : Nat → Int32) (m : Nat) (Lc : Nat → Nat) (Tc : Nat → Nat → Nat) : Prop := (∀ j, j < 8 → arok (ar j)) ∧ ∀ i, i < m → Lc i ≤ 60 ∧ (∀ t, t < Lc i → Tc i t < 256) ∧ aur ar (Tc i) (Lc i) 0 (-2) = none
theorem nm_n {x y z n : Nat} {T : Nat → Nat} {L : Nat} (n1 : 1 ≤ n) (h1 : x < chz T L 0 n) (h2 : y < chz T L 1 n) (h3 : z < chz T L 2 n) : ∀ v, v < 3 → nm x y z v < n := by
  intro v hv
  have a := chz_le (T := T) (L := L) (v := 0) n1
  have b := chz_le (T := T) (L := L) (v := 1) n1
  have d := chz_le (T := T) (L := L) (v := 2) n1
  unfold nm
  split
  · omega
  · split <;> omega
theorem brk_ag {V W : Nat → Nat} {i x y z : Nat} (hTX : TX ar m Lc Tc) (n1 : 1 ≤ n) (n4 : n ≤ 4) (hO : OK ar n ord c) (hv : vld m Lc Tc n i x y z) (hV : ∀ a, a < 64 → V a ≤ n) (hW : ∀ k, k < c → W (ord k) = V (ord k)) : brk ar Lc Tc i x y z W = brk ar Lc Tc i x y z V := by
  obtain ⟨hL, hT, hau⟩ := hTX.2 i hv.1
  obtain ⟨st, s0, sL, ss⟩ := aur_st hTX.1 (Lc i) 0 (-2) (by omega) (Or.inl rfl) hau
  rw [Nat.zero_add] at sL
  obtain ⟨i1, i2⟩ := lk_in (V := V) (X := nm x y z) (st := fun _ => 0) (q := st) hTX.1 hL hT (fun p hp => ss p (by omega) (by omega)) (nm_n n1 hv.2.1 hv.2.2.1 hv.2.2.2) hV n4 (Lc i) [] false (Nat.le_refl _) (by rw [sL]; rfl) (fun _ h => by simp at h)
  unfold brk
  rw [lk_loc (Lc i) [] false (fun a ha => ?_) (fun a ha => ?_)]
  · obtain ⟨k, k1, k2⟩ := hO.2.2.1 a (i1 a ha).1
    rw [← k2]
    exact hW k k1
  · obtain ⟨k, k1, k2⟩ := hO.2.2.1 a (i2 a ha).1
    rw [← k2, hW k k1, k2]
    exact (i2 a ha).2
theorem brk_ns {V W : Nat → Nat} {i x y z e : Nat} (hTX : TX ar m Lc Tc) (n1 : 1 ≤ n) (n4 : n ≤ 4) (hv : vld m Lc Tc n i x y z) (hV : ∀ a, a < 128 → V a ≤ 4) (he : e / 16 < 8) (hno : hasc (Tc i) (Lc i) (ltr (e / 16)) = false) (hW : ∀ a, a ≠ e → W a = V a) : brk ar Lc Tc i x y z W = brk ar Lc Tc i x y z V := by
  obtain ⟨hL, hT, hau⟩ := hTX.2 i hv.1
  obtain ⟨st, s0, sL, ss⟩ := aur_st hTX.1 (Lc i) 0 (-2) (by omega) (Or.inl rfl) hau
  rw [Nat.zero_add] at sL
  have hx := nm_n n1 hv.2.1 hv.2.2.1 hv.2.2.2
  have key := lk_sy (V := V) (X := nm x y z) (q := st) hTX.1 hL hT (fun p hp => ss p (by omega) (by omega)) (fun v h => by have := hx v h; omega) hV (Lc i) [] false (Nat.le_refl _) (by rw [sL]; rfl) (fun _ h => by simp at h)
  have ne : ∀ a, (a ∈ (lk V ar (Tc i) (nm x y z) (Lc i) [] false).2.1 ∨ (lk V ar (Tc i) (nm x y z) (Lc i) [] false).2.2 = some a) → a ≠ e := by
    intro a ha q
    obtain ⟨t, t1, t2, t3⟩ := key a ha
    have := sy_ltr _ (hT t t1) t2
    rw [← t3, q] at this
    have hh : hasc (Tc i) (Lc i) (ltr (e / 16)) = true := by
      unfold hasc
      rw [List.any_eq_true]
      exact ⟨t, List.mem_range.mpr t1, decide_eq_true this.symm⟩
    rw [hno] at hh
    exact absurd hh (by decide)
  have hm : ∀ a, (lk V ar (Tc i) (nm x y z) (Lc i) [] false).2.2 = some a → V a = 0 := by
    have : ∀ (p : Nat) (S : List Nat) (tr : Bool) a, (lk V ar (Tc i) (nm x y z) p S tr).2.2 = some a → V a = 0 := by
      intro p
      induction p with
      | zero => exact fun S tr a h => by simp [lk] at h
      | succ p ih =>
        intro S tr a h
        unfold lk at h
        split at h
        · exact ih _ _ a h
        · split at h
          · exact ih _ _ a h
          · split at h
            · exact ih _ _ a h
            · split at h
              · cases tr with
                | true => simp at h
                | false => exact ih _ _ a h
              · split at h
                · rename_i v0
                  cases h
                  exact v0
                · exact ih _ _ a h
    exact this _ _ _
  unfold brk
  rw [lk_loc (Lc i) [] false (fun a ha => hW a (ne a (Or.inl ha))) (fun a ha => by rw [hW a (ne a (Or.inr ha))]; exact hm a ha)]
def KB (ar : Nat → Int32) (ord : Nat → Nat) (c n : Nat) (Lc : Nat → Nat) (Tc : Nat → Nat → Nat) (m p : Nat) (V : Nat → Nat) : Prop := ∀ k, k < p → ∀ W : Nat → Nat, (∀ j, j < c → W (ord j) = if j < k then V (ord j) else 0) → (∀ a, a < 128 → W a ≤ 4) → badB ar Lc Tc m n W = false
theorem sm_bad {V : Nat → Nat} {p : Nat} (hTX : TX ar m Lc Tc) (n1 : 1 ≤ n) (n4 : n ≤ 4) (hO : OK ar n ord c) (pl : p < c) (hV : ∀ a, a < 128 → V a ≤ 4) (hz : ∀ k, k < c → p < k → V (ord k) = 0) (hKB : KB ar ord c n Lc Tc m (p + 1) V) : (List.range m).any (smB ar Lc Tc n (some (ord p / 16)) V) = badB ar Lc Tc m n V := by
  have o8 := (OKo hO n4 pl).2
  have inj : ∀ k, k < c → k ≠ p → ord k ≠ ord p := fun k hk h e => h (hO.2.2.2 k p hk pl e)
  have hW := hKB p (by omega) (upV V (ord p) 0) (fun j hj => by
    by_cases e : j = p
    · rw [e, upV_s, if_neg (by omega)]
    · rw [upV_o (inj j hj e)]
      by_cases e2 : j < p
      · rw [if_pos e2]
      · rw [if_neg e2]; exact hz j hj (by omega)) (fun a ha => by
    by_cases e : a = ord p
    · rw [e, upV_s]; omega
    · rw [upV_o e]; exact hV a ha)
  have b2 : badB ar Lc Tc m n V = (List.range m).any (badC ar Lc Tc n · V) := rfl
  rw [b2, Bool.eq_iff_iff, List.any_eq_true, List.any_eq_true]
  constructor
  · rintro ⟨i, h1, h2⟩
    have : (hasc (Tc i) (Lc i) (ltr (ord p / 16)) && badC ar Lc Tc n i V) = true := h2
    rw [Bool.and_eq_true] at this
    exact ⟨i, h1, this.2⟩
  · rintro ⟨i, h1, h2⟩
    refine ⟨i, h1, ?_⟩
    show (hasc (Tc i) (Lc i) (ltr (ord p / 16)) && badC ar Lc Tc n i V) = true
    rw [h2]
    cases q : hasc (Tc i) (Lc i) (ltr (ord p / 16)) with
    | true => rfl
    | false =>
      exfalso
      obtain ⟨x, y, z, x1, y1, z1, hb⟩ := badC_t.mp h2
      have hv : vld m Lc Tc n i x y z := ⟨List.mem_range.mp h1, x1, y1, z1⟩
      have := brk_ns (e := ord p) (V := V) (W := upV V (ord p) 0) hTX n1 n4 hv hV o8 q (fun a ha => upV_o ha)
      rw [badB_f.mp hW i x y z hv, hb] at this
      exact absurd this (by decide)
end AG

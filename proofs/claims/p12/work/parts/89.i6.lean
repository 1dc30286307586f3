/-! the class lays the cells in that order -/
theorem gdA (l : List Nat) (a k : Nat) : (l ++ [a]).getD k 0 = if k < l.length then l.getD k 0 else if k = l.length then a else 0 := by
  by_cases h : k < l.length
  · rw [if_pos h]
    simp [List.getD, h, List.getElem?_append]
  · rw [if_neg h]
    by_cases e : k = l.length
    · rw [if_pos e, e]
      simp [List.getD, List.getElem?_append]
    · rw [if_neg e]
      have : (l ++ [a]).length ≤ k := by simp; omega
      simp [List.getD, List.getElem?_eq_none this]
def OS (ar : Nat → Int32) (l : List Nat) (τ : ab_M) : Prop := τ 37 5 = nI l.length ∧ ∀ k, k < l.length → τ 39 k = nI (l.getD k 0) ∧ τ 41 k = dn (gaC ar (l.getD k 0)) ∧ ((∀ j, k < j → j < l.length → l.getD j 0 ≠ l.getD k 0) → τ 40 (l.getD k 0) = nI k)
def fO (σ τ : ab_M) : Prop := (∀ z, z ≠ 37 → z ≠ 39 → z ≠ 40 → z ≠ 41 → τ z = σ z) ∧ τ 37 4 = σ 37 4
theorem fO.rf {σ : ab_M} : fO σ σ := ⟨fun _ _ _ _ _ => rfl, rfl⟩
theorem fO.tr {σ τ υ : ab_M} (h1 : fO σ τ) (h2 : fO τ υ) : fO σ υ := ⟨fun z a b c d => (h2.1 z a b c d).trans (h1.1 z a b c d), h2.2.trans h1.2⟩
section LF
variable {σ : ab_M} {Q : Option ab_V → ab_M → Prop} {ar : Nat → Int32}
theorem lc_f {l : List Nat} {a g : Nat} (hl : l.length < 128) (ha : a < 128) (hg : gaC ar a = g) (h : OS ar l σ) (k : ∀ τ, OS ar (l ++ [a]) τ → fO σ τ → Q none τ) : evm mX6_layCell [.inr (.inr 37), .inl (nI a), .inl (dn g)] σ Q := by
  obtain ⟨h5, hh⟩ := h
  have e1 : (ab_upd σ 39 (σ 37 5).toNatClampNeg (nI a)) 37 5 = nI l.length := by rw [ab_upd_off _ _ (by decide)]; exact h5
  have e2 : (ab_upd (ab_upd σ 39 (σ 37 5).toNatClampNeg (nI a)) 40 (nI a).toNatClampNeg (nI l.length)) 37 5 = nI l.length := by rw [ab_upd_off _ _ (by decide)]; exact e1
  have e3 : (ab_upd (ab_upd (ab_upd σ 39 (σ 37 5).toNatClampNeg (nI a)) 40 (nI a).toNatClampNeg (nI l.length)) 41 (nI l.length).toNatClampNeg (dn g)) 37 5 = nI l.length := by rw [ab_upd_off _ _ (by decide)]; exact e2
  refine s_X6_layCell_0 ⟨fun q => ?_, fun _ => ⟨fun q => absurd q (nI_pos (by omega)), fun _ => ⟨fun q => absurd q (nI_ge (b := 128) ha (by decide)), fun _ => ?_⟩⟩⟩
  · rw [h5] at q
    exact absurd q (nI_ge (b := 128) hl (by decide))
  · rw [e1, e2, e3, nI_1, h5, nI_clamp (by omega), nI_clamp (by omega)]
    refine ⟨inN hl (by decide), inN ha (by decide), inN hl (by decide), ?_⟩
    generalize hu : ab_upd (ab_upd (ab_upd (ab_upd σ 39 l.length (nI a)) 40 a (nI l.length)) 41 l.length (dn g)) 37 5 (nI (l.length + 1)) = υ
    have u39 : ∀ t, υ 39 t = if t = l.length then nI a else σ 39 t := fun t => by
      rw [← hu, ab_upd_off _ _ (by decide), ab_upd_off _ _ (by decide), ab_upd_off _ _ (by decide), ab_upd_eq]
      simp
    have u40 : ∀ t, υ 40 t = if t = a then nI l.length else σ 40 t := fun t => by
      rw [← hu, ab_upd_off _ _ (by decide), ab_upd_off _ _ (by decide), ab_upd_eq, ab_upd_off _ _ (by decide)]
      simp
    have u41 : ∀ t, υ 41 t = if t = l.length then dn g else σ 41 t := fun t => by
      rw [← hu, ab_upd_off _ _ (by decide), ab_upd_eq, ab_upd_off _ _ (by decide), ab_upd_off _ _ (by decide)]
      simp
    have ll : (l ++ [a]).length = l.length + 1 := by simp
    refine k υ ⟨by rw [← hu, ab_upd_same, ll], fun j hj => ?_⟩ ⟨fun z a b c d => by rw [← hu, ab_upd_off _ _ a, ab_upd_off _ _ d, ab_upd_off _ _ c, ab_upd_off _ _ b], by rw [← hu, ab_upd_eq, if_neg (by decide), ab_upd_off _ _ (by decide), ab_upd_off _ _ (by decide), ab_upd_off _ _ (by decide)]⟩
    rw [ll] at hj
    by_cases e : j = l.length
    · have ga : (l ++ [a]).getD j 0 = a := by rw [gdA, if_neg (by omega), if_pos e]
      rw [ga, u39, if_pos e, u41, if_pos e, u40, if_pos rfl, hg, e]
      exact ⟨rfl, rfl, fun _ => rfl⟩
    · have jl : j < l.length := by omega
      obtain ⟨q1, q2, q3⟩ := hh j jl
      have gj : (l ++ [a]).getD j 0 = l.getD j 0 := by rw [gdA, if_pos jl]
      rw [gj, u39, if_neg e, u41, if_neg e]
      refine ⟨q1, q2, fun hn => ?_⟩
      have na : a ≠ l.getD j 0 := by
        have := hn l.length (by omega) (by rw [ll]; omega)
        rw [gdA, if_neg (by omega), if_pos rfl] at this
        exact this
      rw [u40, if_neg (fun q => na q.symm)]
      refine q3 (fun i hi1 hi2 => ?_)
      have := hn i hi1 (by rw [ll]; omega)
      rw [gdA, if_pos hi2] at this
      exact this
end LF

theorem lo_n {n : Int32} (h1 : ¬ n < 1) (h4 : n ≤ 4) : ∃ m : Nat, 1 ≤ m ∧ m ≤ 4 ∧ n = nI m := by
  rw [Int32.lt_iff_toInt_lt, li_1] at h1
  rw [Int32.le_iff_toInt_le, li_4] at h4
  obtain ⟨j, hj, rfl⟩ := nI_of (x := n) (by rw [Int32.lt_iff_toInt_lt, li_0]; omega)
  rw [nI_toInt hj] at h1 h4
  exact ⟨j, by omega, by omega, rfl⟩
/-- no symbol is there: the reference lists nothing -/
theorem li_none {σ : ab_M} {Q : Option ab_V → ab_M → Prop} (ha : ∀ j, j < 8 → σ 51 j = -1) (k : ∀ τ : ab_M, (∀ q, q ≠ 50 → q ≠ 55 → τ q = σ q) → τ 50 7 = 1 → τ 50 8 = 0 → (∀ t, t ≠ 7 → t ≠ 8 → τ 50 t = σ 50 t) → Q none τ) : evm mX8_list [.inr (.inr 50), .inl 1] σ Q := by
  have hA : ∀ j, j < 8 → (ab_upd (ab_upd σ 50 7 1) 50 8 0) 51 j = -1 := by
    intro j hj
    rw [ab_upd_off _ _ (by decide), ab_upd_off _ _ (by decide)]
    exact ha j hj
  have h7 : (ab_upd (ab_upd σ 50 7 1) 50 8 0) 50 7 = 1 := by rw [ab_upd_eq, if_neg (by decide), ab_upd_same]
  have h8 : (ab_upd (ab_upd σ 50 7 1) 50 8 0) 50 8 = 0 := by rw [ab_upd_same]
  have hf : ∀ q, q ≠ 50 → (ab_upd (ab_upd σ 50 7 1) 50 8 0) q = σ q := fun q hq => by rw [ab_upd_off _ _ hq, ab_upd_off _ _ hq]
  have ht : ∀ t, t ≠ 7 → t ≠ 8 → (ab_upd (ab_upd σ 50 7 1) 50 8 0) 50 t = σ 50 t := fun t a b => by rw [ab_upd_eq, if_neg (fun h => b h.2), ab_upd_eq, if_neg (fun h => a h.2)]
  refine s_X8_list_0 ?_
  generalize ab_upd (ab_upd σ 50 7 1) 50 8 0 = τ at hA h7 h8 hf ht ⊢
  have fillv : ∀ (d a : Nat) (υ : ab_M) (o3 o4 o5 o6 : Option ab_V), a + d = 128 → (∀ q, q ≠ 55 → υ q = τ q) → ev mX8_list 167 [some (.inr (.inr 50)), some (.inl 1), some (.inl (nI a)), o3, o4, o5, o6] [] υ Q := by
    intro d
    induction d with
    | zero =>
      intro a υ o3 o4 o5 o6 h hu
      refine s_X8_list_167 ⟨fun _ => ?_, fun h2 => absurd (nI_le (a := 128) (by omega) (by omega)) h2⟩
      refine k υ (fun q h1 h2 => by rw [hu q h2, hf q h1]) ?_ ?_ ?_
      · rw [hu 50 (by decide), h7]
      · rw [hu 50 (by decide), h8]
      · intro t a b
        rw [hu 50 (by decide), ht t a b]
    | succ d ih =>
      intro a υ o3 o4 o5 o6 h hu
      refine s_X8_list_167 ⟨fun h2 => absurd h2 (nI_ge (b := 128) (by omega) (by decide)), fun _ => ⟨?_, ?_⟩⟩
      · exact ab_in_of (by rw [nI_toInt (by omega)]; omega) (by rw [nI_toInt (by omega)]; omega)
      · rw [nI_1]
        exact ih (a + 1) _ _ _ _ _ (by omega) (fun q hq => by rw [ab_upd_off _ _ hq, hu q hq])
  have inn : ∀ (d a : Nat) (o4 o5 o6 : Option ab_V), a + d = 8 → ev mX8_list 52 [some (.inr (.inr 50)), some (.inl 1), some (.inl 0), some (.inl (nI a)), o4, o5, o6] [] τ Q := by
    intro d
    induction d with
    | zero =>
      intro a o4 o5 o6 h
      refine s_X8_list_52 ⟨fun _ => ?_, fun h2 => absurd (nI_le (a := 8) (by omega) (by omega)) h2⟩
      refine s_X8_list_42 ⟨fun _ => ?_, fun h2 => absurd (by rw [h7]; decide) h2⟩
      exact fillv 128 0 τ _ _ _ _ rfl (fun _ _ => rfl)
    | succ d ih =>
      intro a o4 o5 o6 h
      have hin : ab_in (nI a) 8 = true := ab_in_of (by rw [nI_toInt (by omega)]; omega) (by rw [nI_toInt (by omega)]; omega)
      have hm : τ 51 (nI a).toNatClampNeg = -1 := by rw [nI_clamp (by omega)]; exact hA a (by omega)
      refine s_X8_list_52 ⟨fun h2 => absurd h2 (nI_ge (b := 8) (by omega) (by decide)), fun _ => ⟨hin, fun h2 => ?_, fun _ => ?_⟩⟩
      · rw [hm] at h2
        exact absurd h2 (by decide)
      · refine s_X8_list_78 ⟨fun h2 => ?_, fun _ => ⟨hin, fun h2 => ?_, fun _ => ?_⟩⟩
        · rw [h7] at h2
          exact absurd h2 (by decide)
        · rw [hm] at h2
          exact absurd h2 (by decide)
        · rw [nI_1]
          exact ih (a + 1) _ _ _ (by omega)
  have out : ∀ (d a : Nat) (o3 o4 o5 o6 : Option ab_V), a + d = 8 → ev mX8_list 12 [some (.inr (.inr 50)), some (.inl 1), some (.inl (nI a)), o3, o4, o5, o6] [] τ Q := by
    intro d
    induction d with
    | zero =>
      intro a o3 o4 o5 o6 h
      refine s_X8_list_12 ⟨fun _ => ?_, fun h2 => absurd (nI_le (a := 8) (by omega) (by omega)) h2⟩
      refine s_X8_list_42 ⟨fun h2 => ?_, fun _ => inn 8 0 _ _ _ rfl⟩
      rw [h7] at h2
      exact absurd h2 (by decide)
    | succ d ih =>
      intro a o3 o4 o5 o6 h
      have hin : ab_in (nI a) 8 = true := ab_in_of (by rw [nI_toInt (by omega)]; omega) (by rw [nI_toInt (by omega)]; omega)
      have hm : τ 51 (nI a).toNatClampNeg = -1 := by rw [nI_clamp (by omega)]; exact hA a (by omega)
      refine s_X8_list_12 ⟨fun h2 => absurd h2 (nI_ge (b := 8) (by omega) (by decide)), fun _ => ⟨hin, fun h2 => ?_, fun _ => ?_⟩⟩
      · rw [hm] at h2
        exact absurd h2 (by decide)
      · rw [nI_1]
        exact ih (a + 1) _ _ _ _ (by omega)
  exact out 8 0 none none none none rfl
theorem p1_find_m {σ : ab_M} {Q : Option ab_V → ab_M → Prop} {n : Int32} (hσ : ∀ q, 50 ≤ q → σ q = si_m q) (h1 : ¬ n < 1) (h4 : n ≤ 4) (k : ∀ τ : ab_M, Q (some (.inl 1)) τ) : evm mX8_find [.inr (.inr 50), .inl n] σ Q := by
  refine s_X8_find_0 ⟨fun h => absurd h h1, fun _ => ⟨fun _ => ?_, fun h => absurd h4 h⟩⟩
  refine s_X8_find_26 ⟨fun h => absurd h h1, fun _ => ⟨fun _ => ?_, fun h => absurd rfl h⟩⟩
  have ha : ∀ j, j < 8 → (ab_upd (ab_upd σ 50 14 0) 50 12 0) 51 j = -1 := by
    intro j _
    rw [ab_upd_off _ _ (by decide), ab_upd_off _ _ (by decide), hσ 51 (by decide)]
    rfl
  have h5 : (ab_upd (ab_upd σ 50 14 0) 50 12 0) 50 5 = 0 := by
    rw [ab_upd_eq, if_neg (by decide), ab_upd_eq, if_neg (by decide), hσ 50 (by decide)]
    rfl
  refine li_none ha (fun τ g1 g2 g3 g4 => ⟨rfl, ?_⟩)
  have h5 : τ 50 5 = 0 := by rw [g4 5 (by decide) (by decide), h5]
  refine s_X8_someBreaks_0 (s_X8_someBreaks_4 ⟨fun _ => ⟨by decide, ⟨_, rfl, fun _ => ?_, fun h => absurd rfl h⟩⟩, fun h => absurd (by rw [h5]; decide) h⟩)
  refine s_X8_walk_0 (s_X8_walk_2 ⟨fun h => absurd h (by decide), fun _ => ⟨fun _ => ⟨fun _ => ⟨_, rfl, ?_⟩, fun h => absurd (by decide) h⟩, fun h => absurd (by rw [g3]; decide) h⟩⟩)
  have e1 : (ab_upd τ 50 12 1) 50 12 = 1 := ab_upd_same _ _ _ _
  have e2 : (ab_upd (ab_upd τ 50 12 1) 50 13 ((ab_upd τ 50 12 1) 50 12)) 50 7 = 1 := by
    rw [ab_upd_eq, if_neg (by decide), ab_upd_eq, if_neg (by decide), g2]
  have fin : ab_fit .boolean ((ab_upd τ 50 12 1) 50 12) = true := by rw [e1]; decide
  have q : Q (some (.inl ((ab_upd (ab_upd τ 50 12 1) 50 13 ((ab_upd τ 50 12 1) 50 12)) 50 7))) (ab_upd (ab_upd τ 50 12 1) 50 13 ((ab_upd τ 50 12 1) 50 12)) := by
    rw [e2]
    exact k _
  refine s_X8_find_26 ⟨fun _ => ⟨fun _ => ⟨fin, fun _ => q, fun h => absurd rfl h⟩, fun h => absurd rfl h⟩, fun _ => ⟨fun h => absurd h (by decide), fun _ => ⟨fun _ => ⟨fin, fun _ => q, fun h => absurd rfl h⟩, fun h => absurd rfl h⟩⟩⟩
/-- which symbol a letter is -/
theorem sy_in {c : Int32} {lo hi : Nat} (h1 : ¬ c < nI lo) (h2 : ¬ nI hi < c) (hh : hi < 2 ^ 31) (hl : lo < 2 ^ 31) : ∃ j : Nat, lo ≤ j ∧ j ≤ hi ∧ c = nI j := by
  rw [Int32.lt_iff_toInt_lt, nI_toInt hl] at h1
  rw [Int32.lt_iff_toInt_lt, nI_toInt hh] at h2
  obtain ⟨j, hj, rfl⟩ := nI_of (x := c) (by rw [Int32.lt_iff_toInt_lt, li_0]; omega)
  rw [nI_toInt hj] at h1 h2
  exact ⟨j, by omega, by omega, rfl⟩
theorem sy_rel (σ τ : ab_M) (c : Int32) : (r_symbolOf τ c < 0 ∧ (r_codeOf σ c < 0 ∨ 8 ≤ r_codeOf σ c)) ∨ (∃ j : Nat, j < 8 ∧ r_symbolOf τ c = nI j ∧ r_codeOf σ c = nI j) := by
  have rest : (r_codeOf σ c = if c < 120 then (if c = 61 then 11 else if c = 33 then 12 else if c = 124 then 13 else -1) else if 122 < c then (if c = 61 then 11 else if c = 33 then 12 else if c = 124 then 13 else -1) else 8 + (c - 120)) → (r_codeOf σ c < 0 ∨ 8 ≤ r_codeOf σ c) := by
    intro e
    rw [e]
    split
    · split
      · exact Or.inr (by decide)
      · split
        · exact Or.inr (by decide)
        · split
          · exact Or.inr (by decide)
          · exact Or.inl (by decide)
    · rename_i h1
      split
      · split
        · exact Or.inr (by decide)
        · split
          · exact Or.inr (by decide)
          · split
            · exact Or.inr (by decide)
            · exact Or.inl (by decide)
      · rename_i h2
        obtain ⟨j, a, b, rfl⟩ := sy_in (lo := 120) (hi := 122) h1 h2 (by decide) (by decide)
        obtain rfl | rfl | rfl : j = 120 ∨ j = 121 ∨ j = 122 := by omega
        · exact Or.inr (by decide)
        · exact Or.inr (by decide)
        · exact Or.inr (by decide)
  by_cases h97 : c < 97
  · by_cases h80 : c < 80
    · refine Or.inl ⟨?_, rest ?_⟩
      · simp only [r_symbolOf, if_pos h97, if_pos h80]; decide
      · simp only [r_codeOf, if_pos h97, if_pos h80]
    · by_cases h83 : 83 < c
      · refine Or.inl ⟨?_, rest ?_⟩
        · simp only [r_symbolOf, if_pos h97, if_neg h80, if_pos h83]; decide
        · simp only [r_codeOf, if_pos h97, if_neg h80, if_pos h83]
      · obtain ⟨j, a, b, rfl⟩ := sy_in (lo := 80) (hi := 83) h80 h83 (by decide) (by decide)
        refine Or.inr ⟨j - 76, by omega, ?_, ?_⟩
        · obtain rfl | rfl | rfl | rfl : j = 80 ∨ j = 81 ∨ j = 82 ∨ j = 83 := by omega
          all_goals first | (unfold r_symbolOf; decide) | (unfold r_codeOf; decide)
        · obtain rfl | rfl | rfl | rfl : j = 80 ∨ j = 81 ∨ j = 82 ∨ j = 83 := by omega
          all_goals first | (unfold r_symbolOf; decide) | (unfold r_codeOf; decide)
  · by_cases h100 : 100 < c
    · have h80 : ¬ c < 80 := fun h => by
        rw [Int32.lt_iff_toInt_lt] at h h100
        rw [li_80] at h
        rw [li_100] at h100
        omega
      have h83 : 83 < c := by
        rw [Int32.lt_iff_toInt_lt] at h100 ⊢
        rw [li_100] at h100
        rw [li_83]
        omega
      refine Or.inl ⟨?_, rest ?_⟩
      · simp only [r_symbolOf, if_neg h97, if_pos h100, if_neg h80, if_pos h83]; decide
      · simp only [r_codeOf, if_neg h97, if_pos h100, if_neg h80, if_pos h83]
    · obtain ⟨j, a, b, rfl⟩ := sy_in (lo := 97) (hi := 100) h97 h100 (by decide) (by decide)
      refine Or.inr ⟨j - 97, by omega, ?_, ?_⟩
      · obtain rfl | rfl | rfl | rfl : j = 97 ∨ j = 98 ∨ j = 99 ∨ j = 100 := by omega
        all_goals first | (unfold r_symbolOf; decide) | (unfold r_codeOf; decide)
      · obtain rfl | rfl | rfl | rfl : j = 97 ∨ j = 98 ∨ j = 99 ∨ j = 100 := by omega
        all_goals first | (unfold r_symbolOf; decide) | (unfold r_codeOf; decide)

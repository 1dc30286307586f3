/-! texts: the states of their reading, and both readers -/
/-- the class's code of a character -/
def cd (b : Nat) : Int32 := if 97 ≤ b ∧ b ≤ 100 then nI (b - 97) else if 80 ≤ b ∧ b ≤ 83 then nI (b - 76) else if 120 ≤ b ∧ b ≤ 122 then nI (b - 112) else if b = 61 then 11 else if b = 33 then 12 else if b = 124 then 13 else -1
theorem cd_ok (σ : ab_M) : ∀ b, b < 256 → r_codeOf σ (nI b) = cd b := by
  unfold r_codeOf
  decide +kernel
/-- which symbol a character is: 0 .. 7, or 8 -/
def sy (b : Nat) : Nat := if 97 ≤ b ∧ b ≤ 100 then b - 97 else if 80 ≤ b ∧ b ≤ 83 then b - 76 else 8
theorem sy_ok (σ : ab_M) : ∀ b, b < 256 → r_symbolOf σ (nI b) = if sy b < 8 then nI (sy b) else -1 := by
  unfold r_symbolOf
  decide +kernel
def arok (x : Int32) : Prop := x = -1 ∨ x = 0 ∨ x = 1 ∨ x = 2
/-- what an atom, a term wants that begins so -/
def aw (ar : Nat → Int32) (b : Nat) : Int32 := if b = 61 then 2 else if 80 ≤ b ∧ b ≤ 83 then ar (b - 76) else -1
def tw (ar : Nat → Int32) (b : Nat) : Int32 := if 120 ≤ b ∧ b ≤ 122 then 0 else if 97 ≤ b ∧ b ≤ 100 then ar (b - 97) else -1
/-- the state behind a character: -2 a literal begins, -1 an atom begins, else how many terms are owed -/
def au (ar : Nat → Int32) (s : Int32) (b : Nat) : Option Int32 :=
  if s = 0 then (if b = 124 then some (-2) else none)
  else if s = -2 ∧ b = 33 then some (-1)
  else if s < 0 then (if aw ar b < 0 then none else some (aw ar b))
  else (if tw ar b < 0 then none else some ((s - 1) + tw ar b))
/-- the reading from a place on: where it is wrong, none if nowhere -/
def aur (ar : Nat → Int32) (b : Nat → Nat) : Nat → Nat → Int32 → Option Nat
  | 0, p, s => if s = 0 then none else some p
  | d + 1, p, s => match au ar s (b p) with
    | none => some p
    | some s' => aur ar b d (p + 1) s'
/-- a state at place p -/
def sok (p : Nat) (s : Int32) : Prop := s = -2 ∨ s = -1 ∨ (0 ≤ s.toInt ∧ s.toInt ≤ p + 2)
theorem aw_arok {ar : Nat → Int32} (h : ∀ j, j < 8 → arok (ar j)) (b : Nat) : arok (aw ar b) := by
  unfold aw
  split
  · exact Or.inr (Or.inr (Or.inr rfl))
  · split
    · exact h _ (by omega)
    · exact Or.inl rfl
theorem tw_arok {ar : Nat → Int32} (h : ∀ j, j < 8 → arok (ar j)) (b : Nat) : arok (tw ar b) := by
  unfold tw
  split
  · exact Or.inr (Or.inl rfl)
  · split
    · exact h _ (by omega)
    · exact Or.inl rfl
theorem arok_int {x : Int32} (h : arok x) : (x.toInt = -1 ∧ x < 0) ∨ (0 ≤ x.toInt ∧ x.toInt ≤ 2 ∧ ¬ x < 0) := by
  rcases h with rfl | rfl | rfl | rfl
  · exact Or.inl (by decide)
  · exact Or.inr (by decide)
  · exact Or.inr (by decide)
  · exact Or.inr (by decide)
theorem i32_add {x y : Int32} (h1 : -2147483648 ≤ x.toInt + y.toInt) (h2 : x.toInt + y.toInt < 2147483648) : (x + y).toInt = x.toInt + y.toInt := by
  rw [Int32.toInt_add]
  apply Int.bmod_eq_of_le <;> omega
theorem i32_sub {x y : Int32} (h1 : -2147483648 ≤ x.toInt - y.toInt) (h2 : x.toInt - y.toInt < 2147483648) : (x - y).toInt = x.toInt - y.toInt := by
  rw [Int32.toInt_sub]
  apply Int.bmod_eq_of_le <;> omega
theorem au_sok {ar : Nat → Int32} (h : ∀ j, j < 8 → arok (ar j)) {p : Nat} (hp : p ≤ 60) {s s' : Int32} {b : Nat} (hs : sok p s) (e : au ar s b = some s') : sok (p + 1) s' := by
  unfold au at e
  split at e
  · split at e
    · cases e; exact Or.inl rfl
    · cases e
  · rename_i h0
    split at e
    · cases e; exact Or.inr (Or.inl rfl)
    · split at e
      · split at e
        · cases e
        · rename_i hw
          cases e
          rcases arok_int (aw_arok h b) with h1 | h1
          · exact absurd h1.2 hw
          · exact Or.inr (Or.inr ⟨h1.1, by omega⟩)
      · rename_i hn
        split at e
        · cases e
        · rename_i hw
          cases e
          rw [Int32.lt_iff_toInt_lt, li_0] at hn
          have h3 : 0 ≤ s.toInt ∧ s.toInt ≤ p + 2 := by
            rcases hs with rfl | rfl | h3
            · exact absurd (by decide) hn
            · exact absurd (by decide) hn
            · exact h3
          have h4 : s.toInt ≠ 0 := fun q => h0 (Int32.toInt_inj.mp (by rw [q, li_0]))
          have e1 : (s - 1).toInt = s.toInt - 1 := by
            rw [i32_sub (by rw [li_1]; omega) (by rw [li_1]; omega), li_1]
          rcases arok_int (tw_arok h b) with h1 | h1
          · exact absurd h1.2 hw
          · refine Or.inr (Or.inr ?_)
            rw [i32_add (by rw [e1]; omega) (by rw [e1]; omega), e1]
            omega
/-- the class's state -/
def cs (s : Int32) : Int32 := if s = -2 then -1 else if s = -1 then -2 else s
theorem cs_ge {s : Int32} (h : 0 ≤ s.toInt) : cs s = s := by
  unfold cs
  rw [if_neg (fun e => by rw [e] at h; exact absurd h (by decide)), if_neg (fun e => by rw [e] at h; exact absurd h (by decide))]
theorem cd_var : ∀ b, b < 256 → (if cd b < 8 then (0 : Int32) else if 11 ≤ cd b then 0 else 1) = if 120 ≤ b ∧ b ≤ 122 then 1 else 0 := by decide +kernel
theorem cd_pre : ∀ b, b < 256 → (if cd b < 4 then (0 : Int32) else if 8 ≤ cd b then 0 else 1) = if 80 ≤ b ∧ b ≤ 83 then 1 else 0 := by decide +kernel
theorem cd_fun : ∀ b, b < 256 → (if cd b < 0 then (0 : Int32) else if 4 ≤ cd b then 0 else 1) = if 97 ≤ b ∧ b ≤ 100 then 1 else 0 := by decide +kernel
section RD
variable {σ : ab_M} {Q : Option ab_V → ab_M → Prop} {b : Nat}
theorem iv_ok (hb : b < 256) (k : Q (some (.inl (if 120 ≤ b ∧ b ≤ 122 then 1 else 0))) σ) : evm mX7_isVariable [.inl (cd b)] σ Q := by
  rw [← cd_var b hb] at k
  refine s_X7_isVariable_0 ⟨fun h => ?_, fun h => ⟨fun h2 => ?_, fun h2 => ?_⟩⟩
  · rw [if_pos h] at k; exact k
  · rw [if_neg h, if_pos h2] at k; exact k
  · rw [if_neg h, if_neg h2] at k; exact k
theorem ip_ok (hb : b < 256) (k : Q (some (.inl (if 80 ≤ b ∧ b ≤ 83 then 1 else 0))) σ) : evm mX7_isPredicate [.inl (cd b)] σ Q := by
  rw [← cd_pre b hb] at k
  refine s_X7_isPredicate_0 ⟨fun h => ?_, fun h => ⟨fun h2 => ?_, fun h2 => ?_⟩⟩
  · rw [if_pos h] at k; exact k
  · rw [if_neg h, if_pos h2] at k; exact k
  · rw [if_neg h, if_neg h2] at k; exact k
theorem if_ok (hb : b < 256) (k : Q (some (.inl (if 97 ≤ b ∧ b ≤ 100 then 1 else 0))) σ) : evm mX7_isFunction [.inl (cd b)] σ Q := by
  rw [← cd_fun b hb] at k
  refine s_X7_isFunction_0 ⟨fun h => ?_, fun h => ⟨fun h2 => ?_, fun h2 => ?_⟩⟩
  · rw [if_pos h] at k; exact k
  · rw [if_neg h, if_pos h2] at k; exact k
  · rw [if_neg h, if_neg h2] at k; exact k
theorem cd_eq11 : ∀ b, b < 256 → (cd b = 11 ↔ b = 61) := by decide +kernel
theorem cd_eq12 : ∀ b, b < 256 → (cd b = 12 ↔ b = 33) := by decide +kernel
theorem cd_eq13 : ∀ b, b < 256 → (cd b = 13 ↔ b = 124) := by decide +kernel
theorem cd_p : ∀ b, b < 256 → 80 ≤ b ∧ b ≤ 83 → cd b = nI (b - 76) := by decide +kernel
theorem cd_f : ∀ b, b < 256 → 97 ≤ b ∧ b ≤ 100 → cd b = nI (b - 97) := by decide +kernel
def rdo (o : Option Int32) : Int32 := match o with
  | none => -3
  | some s => cs s
theorem aa_ok (hb : b < 256) (har : ∀ j, j < 8 → arok (σ 2 j)) (k : Q (some (.inl (if aw (σ 2) b < 0 then -3 else aw (σ 2) b))) σ) : evm mX1_afterAtomBegins [.inl (cd b), .inr (.inr 1)] σ Q := by
  refine s_X1_afterAtomBegins_0 ⟨fun h => ?_, fun h => ?_⟩
  · have hb1 := (cd_eq11 b hb).mp h
    unfold aw at k
    rw [if_pos hb1, if_neg (by decide)] at k
    exact k
  · have hb1 : ¬ b = 61 := fun e => h ((cd_eq11 b hb).mpr e)
    unfold aw at k
    rw [if_neg hb1] at k
    refine ip_ok hb ⟨_, rfl, ?_⟩
    by_cases hp : 80 ≤ b ∧ b ≤ 83
    · rw [if_pos hp] at k ⊢
      refine ⟨fun h2 => absurd h2 (by decide), fun _ => ?_⟩
      rw [cd_p b hb hp]
      refine ar_ok (by omega) ⟨_, rfl, fun h2 => ?_, fun h2 => ?_⟩
      · rw [h2, if_pos (by decide)] at k
        exact k
      · have h3 : ¬ σ 2 (b - 76) < 0 := by
          rcases har (b - 76) (by omega) with e | e | e | e
          · exact absurd e h2
          · rw [e]; decide
          · rw [e]; decide
          · rw [e]; decide
        rw [if_neg h3] at k
        exact ar_ok (by omega) ⟨_, rfl, k⟩
    · rw [if_neg hp] at k ⊢
      rw [if_pos (by decide)] at k
      exact ⟨fun _ => k, fun h2 => absurd rfl h2⟩
theorem at_ok {s : Int32} (hb : b < 256) (har : ∀ j, j < 8 → arok (σ 2 j)) (k : Q (some (.inl (if tw (σ 2) b < 0 then -3 else (s - 1) + tw (σ 2) b))) σ) : evm mX1_afterTermBegins [.inl s, .inl (cd b), .inr (.inr 1)] σ Q := by
  refine s_X1_afterTermBegins_0 (iv_ok hb ⟨_, rfl, ?_⟩)
  unfold tw at k
  by_cases hv : 120 ≤ b ∧ b ≤ 122
  · rw [if_pos hv] at k ⊢
    rw [if_neg (by decide)] at k
    refine ⟨fun h => absurd h (by decide), fun _ => ?_⟩
    have e : (s - 1) + 0 = s - 1 := Int32.add_zero _
    rw [e] at k
    exact k
  · rw [if_neg hv] at k ⊢
    refine ⟨fun _ => ?_, fun h => absurd rfl h⟩
    refine if_ok hb ⟨_, rfl, ?_⟩
    by_cases hp : 97 ≤ b ∧ b ≤ 100
    · rw [if_pos hp] at k ⊢
      refine ⟨fun h2 => absurd h2 (by decide), fun _ => ?_⟩
      rw [cd_f b hb hp]
      refine ar_ok (by omega) ⟨_, rfl, fun h2 => ?_, fun h2 => ?_⟩
      · rw [h2, if_pos (by decide)] at k
        exact k
      · have h3 : ¬ σ 2 (b - 97) < 0 := by
          rcases har (b - 97) (by omega) with e | e | e | e
          · exact absurd e h2
          · rw [e]; decide
          · rw [e]; decide
          · rw [e]; decide
        rw [if_neg h3] at k
        exact ar_ok (by omega) ⟨_, rfl, k⟩
    · rw [if_neg hp] at k ⊢
      rw [if_pos (by decide)] at k
      exact ⟨fun _ => k, fun h2 => absurd rfl h2⟩
theorem af_ok {p : Nat} (hp : p ≤ 60) {s : Int32} (hs : sok p s) (hb : b < 256) (har : ∀ j, j < 8 → arok (σ 2 j)) (k : Q (some (.inl (rdo (au (σ 2) s b)))) σ) : evm mX1_after [.inl (cs s), .inl (cd b), .inr (.inr 1)] σ Q := by
  have haw : ∀ {Q : Option ab_V → ab_M → Prop}, Q (some (.inl (rdo (if aw (σ 2) b < 0 then none else some (aw (σ 2) b))))) σ → evm mX1_afterAtomBegins [.inl (cd b), .inr (.inr 1)] σ (fun v τ1 => ∃ r2 : Int32, v = some (.inl r2) ∧ Q (some (.inl r2)) τ1) := by
    intro Q k
    refine aa_ok hb har ⟨_, rfl, ?_⟩
    rcases arok_int (aw_arok har b) with h1 | h1
    · rw [if_pos h1.2] at k ⊢
      exact k
    · rw [if_neg h1.2.2] at k ⊢
      have e : rdo (some (aw (σ 2) b)) = aw (σ 2) b := cs_ge h1.1
      rw [e] at k
      exact k
  unfold au at k
  rcases hs with rfl | rfl | h3
  · rw [if_neg (by decide)] at k
    have e : cs (-2) = -1 := by decide
    rw [e]
    refine s_X1_after_0 ⟨fun _ => ⟨fun h => ?_, fun h => ⟨fun _ => ?_, fun h2 => absurd rfl h2⟩⟩, fun h => absurd rfl h⟩
    · have hb1 := (cd_eq12 b hb).mp h
      rw [if_pos ⟨rfl, hb1⟩] at k
      exact k
    · have hb1 : ¬ b = 33 := fun e => h ((cd_eq12 b hb).mpr e)
      rw [if_neg (fun q => hb1 q.2), if_pos (by decide)] at k
      exact haw k
  · rw [if_neg (by decide), if_neg (fun q => absurd q.1 (by decide)), if_pos (by decide)] at k
    have e : cs (-1) = -2 := by decide
    rw [e]
    exact s_X1_after_0 ⟨fun h => absurd h (by decide), fun _ => ⟨fun h => absurd h (by decide), fun _ => ⟨fun _ => haw k, fun h => absurd rfl h⟩⟩⟩
  · rw [cs_ge h3.1]
    have n1 : ¬ s = -1 := fun e => by rw [e] at h3; exact absurd h3.1 (by decide)
    have n2 : ¬ s = -2 := fun e => by rw [e] at h3; exact absurd h3.1 (by decide)
    have n3 : ¬ s < 0 := by rw [Int32.lt_iff_toInt_lt, li_0]; omega
    refine s_X1_after_0 ⟨fun h => absurd h n1, fun _ => ⟨fun h => absurd h n1, fun _ => ⟨fun h => absurd h n2, fun _ => ⟨fun h => ⟨fun h2 => ?_, fun h2 => ?_⟩, fun h => ?_⟩⟩⟩⟩
    · rw [if_pos h, if_pos ((cd_eq13 b hb).mp h2)] at k
      exact k
    · rw [if_pos h, if_neg (fun e => h2 ((cd_eq13 b hb).mpr e))] at k
      exact k
    · rw [if_neg h, if_neg (fun q => n2 q.1), if_neg n3] at k
      refine at_ok hb har ⟨_, rfl, ?_⟩
      by_cases hw : tw (σ 2) b < 0
      · rw [if_pos hw] at k ⊢
        exact k
      · rw [if_neg hw] at k ⊢
        have hk : rdo (some ((s - 1) + tw (σ 2) b)) = (s - 1) + tw (σ 2) b := by
          refine cs_ge ?_
          have h4 : s.toInt ≠ 0 := fun q => h (Int32.toInt_inj.mp (by rw [q, li_0]))
          have hlt := s.toInt_lt
          have e1 : (s - 1).toInt = s.toInt - 1 := by
            rw [i32_sub (by rw [li_1]; omega) (by rw [li_1]; omega), li_1]
          rcases arok_int (tw_arok har b) with h1 | h1
          · exact absurd h1.2 hw
          · rw [i32_add (by rw [e1]; omega) (by rw [e1]; omega), e1]
            omega
        rw [hk] at k
        exact k
end RD

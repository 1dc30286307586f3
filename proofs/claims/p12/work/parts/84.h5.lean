/-! what a look depends on -/
theorem lk_loc {V V' : Nat → Nat} {ar : Nat → Int32} {T X : Nat → Nat} : ∀ (p : Nat) (S : List Nat) (tr : Bool), (∀ c ∈ (lk V ar T X p S tr).2.1, V' c = V c) → (∀ c, (lk V ar T X p S tr).2.2 = some c → V' c = 0) → lk V' ar T X p S tr = lk V ar T X p S tr := by
  intro p
  induction p with
  | zero => exact fun _ _ _ _ => rfl
  | succ p ih =>
    intro S tr h1 h2
    unfold lk at h1 h2 ⊢
    split
    · rename_i a
      rw [if_pos a] at h1 h2
      exact ih _ _ h1 h2
    · rename_i a
      rw [if_neg a] at h1 h2
      split
      · rename_i b
        rw [if_pos b] at h1 h2
        exact ih _ _ h1 h2
      · rename_i b
        rw [if_neg b] at h1 h2
        split
        · rename_i c
          rw [if_pos c] at h1 h2
          exact ih _ _ h1 h2
        · rename_i c
          rw [if_neg c] at h1 h2
          split
          · rename_i d
            rw [if_pos d] at h1 h2
            cases tr with
            | true => rfl
            | false => exact ih _ _ h1 h2
          · rename_i d
            rw [if_neg d] at h1 h2
            by_cases v0 : V (cel (sy (T p)) (wn (ar (sy (T p)))) S) = 0
            · rw [if_pos v0] at h2 ⊢
              rw [if_pos (h2 _ rfl)]
            · rw [if_neg v0] at h1 h2 ⊢
              have ec : V' (cel (sy (T p)) (wn (ar (sy (T p)))) S) = V (cel (sy (T p)) (wn (ar (sy (T p)))) S) := h1 _ (by simp)
              have e1 : lkS V' (sy (T p)) (wn (ar (sy (T p)))) S = lkS V (sy (T p)) (wn (ar (sy (T p)))) S := by unfold lkS; rw [ec]
              have e2 : lkT V' (sy (T p)) (wn (ar (sy (T p)))) S tr = lkT V (sy (T p)) (wn (ar (sy (T p)))) S tr := by unfold lkT; rw [ec]
              rw [if_neg (by rw [ec]; exact v0), e1, e2, ih _ _ (fun c hc => h1 c (List.mem_cons_of_mem _ hc)) h2]
/-- a cell that there is for a size -/
def Ld (ar : Nat → Int32) (n c : Nat) : Prop := ∃ s i j, s < 8 ∧ c = 16 * s + 4 * i + j ∧ ((ar s = 0 ∧ i = 0 ∧ j = 0) ∨ (ar s = 1 ∧ i < n ∧ j = 0) ∨ (ar s = 2 ∧ i < n ∧ j < n))
theorem Ld_cel {ar : Nat → Int32} {n s w : Nat} {S : List Nat} (hs : s < 8) (hw : w ≤ 2) (ha : ar s = nI w) (hl : w ≤ S.length) (hS : ∀ x ∈ S, x < n) : Ld ar n (cel s w S) := by
  unfold cel
  rcases (by omega : w = 0 ∨ w = 1 ∨ w = 2) with rfl | rfl | rfl
  · exact ⟨s, 0, 0, hs, rfl, Or.inl ⟨ha, rfl, rfl⟩⟩
  · rcases S with _ | ⟨x, S⟩
    · simp at hl
    · exact ⟨s, x, 0, hs, rfl, Or.inr (Or.inl ⟨ha, hS x (by simp), rfl⟩)⟩
  · rcases S with _ | ⟨x, _ | ⟨y, S⟩⟩
    · simp at hl
    · simp at hl
    · exact ⟨s, x, y, hs, rfl, Or.inr (Or.inr ⟨ha, hS x (by simp), hS y (by simp)⟩)⟩
/-- every cell that a look reads is there and has a value; the missing one is there and has none -/
theorem lk_in {V : Nat → Nat} {ar : Nat → Int32} {T X st : Nat → Nat} {n L : Nat} {q : Nat → Int32} (har : ∀ j, j < 8 → arok (ar j)) (hL : L ≤ 60) (hT : ∀ t, t < L → T t < 256) (hst : ∀ p, p < L → au ar (q p) (T p) = some (q (p + 1)) ∧ sok p (q p)) (hX : ∀ v, v < 3 → X v < n) (hV : ∀ c, c < 64 → V c ≤ n) (n4 : n ≤ 4) : ∀ (p : Nat) (S : List Nat) (tr : Bool), p ≤ L → S.length = hc (q p) → (∀ x ∈ S, x < n) → (∀ c ∈ (lk V ar T X p S tr).2.1, Ld ar n c ∧ V c ≠ 0) ∧ (∀ c, (lk V ar T X p S tr).2.2 = some c → Ld ar n c ∧ V c = 0) := by
  intro p
  induction p with
  | zero => exact fun S tr _ _ _ => ⟨fun c hc => by simp [lk] at hc, fun c hc => by simp [lk] at hc⟩
  | succ p ih =>
    intro S tr hp hl hS
    obtain ⟨e1, e2⟩ := hst p (by omega)
    have hb := hT p (by omega)
    have hk := au_k har (by omega) hb e2 e1
    have sym : ∀ w, sy (T p) < 8 → w ≤ 2 → ar (sy (T p)) = nI w → w ≤ S.length → (¬ V (cel (sy (T p)) w S) = 0 → (lkS V (sy (T p)) w S).length = hc (q p) ∧ ∀ x ∈ lkS V (sy (T p)) w S, x < n) → (∀ c ∈ (lk V ar T X (p + 1) S tr).2.1, Ld ar n c ∧ V c ≠ 0) ∧ (∀ c, (lk V ar T X (p + 1) S tr).2.2 = some c → Ld ar n c ∧ V c = 0) := by
      intro w s8 w2 ha hw hn
      have hld := Ld_cel s8 w2 ha hw hS
      by_cases v0 : V (cel (sy (T p)) w S) = 0
      · rw [lk_0 hb s8 w2 ha v0]
        refine ⟨fun c hc => by simp at hc, fun c hc => ?_⟩
        cases hc
        exact ⟨hld, v0⟩
      · rw [lk_1 hb s8 w2 ha v0]
        obtain ⟨a1, a2⟩ := hn v0
        obtain ⟨b1, b2⟩ := ih (lkS V (sy (T p)) w S) (lkT V (sy (T p)) w S tr) (by omega) a1 a2
        refine ⟨fun c hc => ?_, b2⟩
        rcases List.mem_cons.mp hc with e | e
        · rw [e]; exact ⟨hld, v0⟩
        · exact b1 c e
    rcases hk with ⟨z1, z2, z3⟩ | ⟨z1, z2, z3⟩ | ⟨z1, z2, z3⟩ | ⟨w, z1, z2, z3, z4, z5, z6⟩ | ⟨a, z1, z2, z3, z4⟩ | ⟨a, w, z1, z2, z3, z4, z5, z6⟩
    · rw [lk_o z2]
      cases tr with
      | true => exact ⟨fun c hc => by simp at hc, fun c hc => by simp at hc⟩
      | false => exact ih S false (by omega) (by rw [hl, z3, z1]; decide) hS
    · rw [lk_n z2]
      exact ih S _ (by omega) (by rw [hl, z3, z1]; decide) hS
    · rw [lk_q z2]
      refine ih _ _ (by omega) ?_ (fun x hx => hS x (List.mem_of_mem_tail (List.mem_of_mem_tail hx)))
      rw [hc_neg z1, List.length_tail, List.length_tail, hl, z3, hc_n (by decide)]
    · rw [z6, hc_n (by omega)] at hl
      refine sym w z3 z4 z5 (by omega) (fun v0 => ?_)
      unfold lkS
      rw [if_neg (by omega), List.length_drop, hc_neg z1]
      exact ⟨by omega, fun x hx => hS x (List.mem_of_mem_drop hx)⟩
    · rw [lk_v z2]
      rw [z4, hc_n (by omega)] at hl
      refine ih _ _ (by omega) (by rw [List.length_cons, hl, z3, hc_n (by omega)]) (fun x hx => ?_)
      rcases List.mem_cons.mp hx with e | e
      · rw [e]; exact hX _ (by omega)
      · exact hS x e
    · rw [z6, hc_n (by omega)] at hl
      refine sym w (by omega) z3 z4 (by omega) (fun v0 => ?_)
      have c64 : cel (sy (T p)) w S < 64 := by
        have hd : ∀ S : List Nat, (∀ x ∈ S, x < n) → S.headD 0 < 4 := by
          intro S h
          cases S with
          | nil => decide
          | cons a S => have := h a (by simp); simp; omega
        have h1 := hd S hS
        have h2 := hd S.tail (fun x hx => hS x (List.mem_of_mem_tail hx))
        unfold cel
        split <;> split <;> omega
      have vn := hV _ c64
      unfold lkS
      rw [if_pos z2, List.length_cons, List.length_drop, z5, hc_n (by omega)]
      refine ⟨by omega, fun x hx => ?_⟩
      rcases List.mem_cons.mp hx with e | e
      · omega
      · exact hS x (List.mem_of_mem_drop e)

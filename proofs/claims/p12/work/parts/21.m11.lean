/-! the start: what the constructors make, run by the kernel -/
def sh1 : ab_Sh := [.inl (7, [some (some 1), some (some 3), some (some 5), some (some 34), some (some 37), some (some 42), some (some 45), some (some 49), none, none]), .inl (5, [some (some 2)]), .inr (.inl (0, 8)), .inl (0, [some (some 4), none]), .inr (.inl (1, 60)), .inl (2, [some (some 6), none]), .inr (.inr (3, [some 7, some 10, some 13, some 16, some 19, some 22, some 25, some 28, some 31])), .inl (1, [some (some 8), some (some 9), none]), .inr (.inl (0, 60)), .inr (.inl (2, 3)), .inl (1, [some (some 11), some (some 12), none]), .inr (.inl (0, 60)), .inr (.inl (2, 3)), .inl (1, [some (some 14), some (some 15), none]), .inr (.inl (0, 60)), .inr (.inl (2, 3)), .inl (1, [some (some 17), some (some 18), none]), .inr (.inl (0, 60)), .inr (.inl (2, 3)), .inl (1, [some (some 20), some (some 21), none]), .inr (.inl (0, 60)), .inr (.inl (2, 3)), .inl (1, [some (some 23), some (some 24), none]), .inr (.inl (0, 60)), .inr (.inl (2, 3)), .inl (1, [some (some 26), some (some 27), none]), .inr (.inl (0, 60)), .inr (.inl (2, 3)), .inl (1, [some (some 29), some (some 30), none]), .inr (.inl (0, 60)), .inr (.inl (2, 3)), .inl (1, [some (some 32), some (some 33), none]), .inr (.inl (0, 60)), .inr (.inl (2, 3)), .inl (1, [some (some 35), some (some 36), none]), .inr (.inl (0, 60)), .inr (.inl (2, 3)), .inl (6, [some (some 38), some (some 39), some (some 40), some (some 41), none, none]), .inr (.inl (0, 128)), .inr (.inl (0, 128)), .inr (.inl (0, 128)), .inr (.inl (0, 128)), .inl (3, [some (some 1), some (some 37), some (some 43), some (some 44), none, none, none, none]), .inr (.inl (0, 3)), .inr (.inl (0, 60)), .inl (4, [some (some 5), some (some 37), some (some 42), some (some 46), some (some 47), some (some 48), none]), .inr (.inl (0, 512)), .inr (.inl (0, 512)), .inr (.inl (0, 129)), .inr (.inl (0, 3))]
def sh0 : ab_Sh := [.inl (7, [some (some 1), some (some 3), some (some 5), some (some 34), some (some 37), some (some 42), some (some 45), some (some 49), none, none]), .inl (5, [some (some 2)]), .inr (.inl (0, 8)), .inl (0, [some (some 4), none]), .inr (.inl (1, 60)), .inl (2, [some (some 6), none]), .inr (.inr (3, [some 7, some 10, some 13, some 16, some 19, some 22, some 25, some 28, some 31])), .inl (1, [some (some 8), some (some 9), none]), .inr (.inl (0, 60)), .inr (.inl (2, 3)), .inl (1, [some (some 11), some (some 12), none]), .inr (.inl (0, 60)), .inr (.inl (2, 3)), .inl (1, [some (some 14), some (some 15), none]), .inr (.inl (0, 60)), .inr (.inl (2, 3)), .inl (1, [some (some 17), some (some 18), none]), .inr (.inl (0, 60)), .inr (.inl (2, 3)), .inl (1, [some (some 20), some (some 21), none]), .inr (.inl (0, 60)), .inr (.inl (2, 3)), .inl (1, [some (some 23), some (some 24), none]), .inr (.inl (0, 60)), .inr (.inl (2, 3)), .inl (1, [some (some 26), some (some 27), none]), .inr (.inl (0, 60)), .inr (.inl (2, 3)), .inl (1, [some (some 29), some (some 30), none]), .inr (.inl (0, 60)), .inr (.inl (2, 3)), .inl (1, [some (some 32), some (some 33), none]), .inr (.inl (0, 60)), .inr (.inl (2, 3)), .inl (1, [some (some 35), some (some 36), none]), .inr (.inl (0, 60)), .inr (.inl (2, 3)), .inl (6, [some (some 38), some (some 39), some (some 40), some (some 41), none, none]), .inr (.inl (0, 128)), .inr (.inl (0, 128)), .inr (.inl (0, 128)), .inr (.inl (0, 128)), .inl (3, [some (some 1), some (some 37), some (some 43), some (some 44), none, none, none, none]), .inr (.inl (0, 3)), .inr (.inl (0, 60)), .inl (4, [some (some 5), some (some 37), some (some 42), some (some 46), some (some 47), some (some 48), none]), .inr (.inl (0, 512)), .inr (.inl (0, 512)), .inr (.inl (0, 129)), .inr (.inl (0, 3)), .inl (8, [some (some 51), some (some 52), none, some (some 53), some (some 54), none, some (some 55), none, none, some (some 56), some (some 57), some (some 58), none, none, none, some (some 59), some (some 60), some (some 61), none]), .inr (.inl (0, 8)), .inr (.inl (0, 60)), .inr (.inl (0, 540)), .inr (.inl (0, 9)), .inr (.inl (0, 128)), .inr (.inl (0, 128)), .inr (.inl (0, 128)), .inr (.inl (0, 128)), .inr (.inl (0, 3)), .inr (.inl (0, 3)), .inr (.inl (0, 61))]
def ab_ceq (c d : ab_C) : Bool := match c, d with
  | .inl (a, f), .inl (b, g) => Nat.beq a b && decide (f = g)
  | .inr (.inl (a, f)), .inr (.inl (b, g)) => Nat.beq a b && Nat.beq f g
  | .inr (.inr (a, f)), .inr (.inr (b, g)) => Nat.beq a b && decide (f = g)
  | _, _ => false
theorem ab_ceq_ok {c d : ab_C} (h : ab_ceq c d = true) : c = d := by
  unfold ab_ceq at h
  split at h
  · rw [Bool.and_eq_true] at h
    rw [Nat.eq_of_beq_eq_true h.1, of_decide_eq_true h.2]
  · rw [Bool.and_eq_true] at h
    rw [Nat.eq_of_beq_eq_true h.1, Nat.eq_of_beq_eq_true h.2]
  · rw [Bool.and_eq_true] at h
    rw [Nat.eq_of_beq_eq_true h.1, of_decide_eq_true h.2]
  · cases h
def ab_sheq : ab_Sh → ab_Sh → Bool
  | [], [] => true
  | c :: l, d :: k => ab_ceq c d && ab_sheq l k
  | _, _ => false
theorem ab_sheq_ok : ∀ {l k : ab_Sh}, ab_sheq l k = true → l = k
  | [], [], _ => rfl
  | c :: l, d :: k, h => by
    unfold ab_sheq at h
    rw [Bool.and_eq_true] at h
    rw [ab_ceq_ok h.1, ab_sheq_ok h.2]
  | [], _ :: _, h => by cases h
  | _ :: _, [], h => by cases h
/-- a run's end: nothing returned, this shape -/
def ab_void (r : Option (Option ab_V × ab_Sh × ab_M)) (sh : ab_Sh) : Bool := match r with
  | some (none, sh', _) => ab_sheq sh' sh
  | _ => false
def in_a : ab_Sh := [.inl (7, ab_ob (tb_ft.getD 7 []))]
def in_1 : Option (Option ab_V × ab_Sh × ab_M) := ab_run 3000 mX7_init 0 (ab_entry [.inr (.inr 0)] 1) [] in_a (fun _ _ => 0) 0 0
def in_s1 : ab_M := match in_1 with
  | some r => r.2.2
  | none => fun _ _ => 0
set_option maxRecDepth 100000 in
theorem in_1_sh : ab_void in_1 sh1 = true := by decide +kernel
theorem in_1_eq : in_1 = some (none, sh1, in_s1) := by
  have h := in_1_sh
  unfold ab_void at h
  unfold in_s1
  split at h
  · rename_i sh' σ' e
    rw [e, ab_sheq_ok h]
  · cases h
/-- the memory at the start -/
def si_m : ab_M := fun q k => bif Nat.beq q 2 || Nat.beq q 51 then -1 else bif Nat.beq q 42 && Nat.beq k 6 then -1 else bif Nat.beq q 42 && Nat.beq k 7 then 128 else 0
def in_2 : Option (Option ab_V × ab_Sh × ab_M) := ab_run 3000 mX8_init 0 (ab_entry [.inr (.inr 50)] 1) [] (sh1 ++ [.inl (8, ab_ob (tb_ft.getD 8 []))]) si_m 0 0
def in_s2 : ab_M := match in_2 with
  | some r => r.2.2
  | none => fun _ _ => 0
set_option maxRecDepth 100000 in
theorem in_2_sh : ab_void in_2 sh0 = true := by decide +kernel
theorem in_2_eq : in_2 = some (none, sh0, in_s2) := by
  have h := in_2_sh
  unfold ab_void at h
  unfold in_s2
  split at h
  · rename_i sh' σ' e
    rw [e, ab_sheq_ok h]
  · cases h
/-- how many numbers a cell has -/
def ab_size (c : ab_C) : Nat := match c with
  | .inl (_, ff) => ff.length
  | .inr (.inl (_, n)) => n
  | .inr (.inr _) => 0
/-- two memories that agree on the cells of a shape -/
def ab_sim (sh : ab_Sh) (σ τ : ab_M) : Prop := ∀ q c, sh[q]? = some c → ∀ k, k < ab_size c → σ q k = τ q k
def ab_simB (sh : ab_Sh) (σ τ : ab_M) : Bool := (List.range sh.length).all (fun q => match sh[q]? with
  | some c => (List.range (ab_size c)).all (fun k => decide (σ q k = τ q k))
  | none => true)
theorem ab_sim_of {sh : ab_Sh} {σ τ : ab_M} (h : ab_simB sh σ τ = true) : ab_sim sh σ τ := by
  intro q c hq k hk
  have h1 := List.all_eq_true.mp h q (List.mem_range.mpr (List.getElem?_eq_some_iff.mp hq).1)
  rw [hq] at h1
  exact of_decide_eq_true (List.all_eq_true.mp h1 k (List.mem_range.mpr hk))
theorem ab_sim_P {D : va_G} {cl : List vw_C} {base : Nat} {ca : Nat → ClassId} {sh : ab_Sh} {σ τ : ab_M} {H : Heap} (h : ab_sim sh σ τ) (hP : va_P D cl (ab_w base ca sh σ) H) : va_P D cl (ab_w base ca sh τ) H := by
  intro k q hk
  obtain ⟨c, hc, rfl⟩ := ab_w_inv hk
  have h1 := hP k _ (ab_w_at hc)
  have hs := h k c hc
  obtain ⟨ci, ff⟩ | ⟨t, n⟩ | ⟨t, g⟩ := c
  · have e : ab_cell base ca (.inl (ci, ff)) (σ k) = ab_cell base ca (.inl (ci, ff)) (τ k) := by
      unfold ab_cell
      simp only
      congr 2
      apply List.ext_getElem?
      intro i
      rw [List.getElem?_mapIdx, List.getElem?_mapIdx]
      cases hi : ff[i]? with
      | none => rfl
      | some r => rw [hs i (List.getElem?_eq_some_iff.mp hi).1]
    rw [← e]
    exact h1
  · have e : arrV (ca t) n (fun j => .int (σ k j)) = arrV (ca t) n (fun j => .int (τ k j)) := by
      unfold arrV
      congr 1
      apply Array.ext_getElem?
      intro i
      by_cases hi : i < n
      · have hv := hs i hi
        simp [hi, hv]
      · simp [hi]
    show H[base + k]? = some (vp_cell _ _)
    rw [vp_cell_i, ← e]
    exact h1
  · exact h1
set_option maxRecDepth 100000 in
theorem in_s1_ok : ab_simB sh1 in_s1 si_m = true := by decide +kernel
set_option maxRecDepth 100000 in
theorem in_s2_ok : ab_simB sh0 in_s2 si_m = true := by decide +kernel

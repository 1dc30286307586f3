/-! one call on a fresh object -/
def p1_two (n1 n2 : Nat) (Mx Mm : ab_Me) (ax am : List ab_V) (v : Int32) : Bool := match ab_run n1 Mx 0 (ab_entry ax (me_nl Mx)) [] sh0 si_m 0 0 with
  | some (some (.inl v1), sh1, σ1) => decide (v1 = v) && ab_sheq sh1 sh0 && (match ab_run n2 Mm 0 (ab_entry am (me_nl Mm)) [] sh0 σ1 0 0 with
    | some (some (.inl v2), sh2, _) => decide (v2 = v) && ab_sheq sh2 sh0
    | _ => false)
  | _ => false
theorem p1_two_ok {n1 n2 : Nat} {Mx Mm : ab_Me} {ax am : List ab_V} {v : Int32} (h : p1_two n1 n2 Mx Mm ax am v = true) : ∃ σ1 σ2, ev0 Mx ax si_m (some (.inl v)) σ1 ∧ ev0 Mm am σ1 (some (.inl v)) σ2 := by
  unfold p1_two at h
  split at h
  · rename_i v1 sh1 σ1 e1
    simp only [Bool.and_eq_true] at h
    have q1 := of_decide_eq_true h.1.1
    have q2 := ab_sheq_ok h.1.2
    subst q1
    subst q2
    have h2 := h.2
    split at h2
    · rename_i v2 sh2 σ2 e2
      rw [Bool.and_eq_true] at h2
      have q3 := of_decide_eq_true h2.1
      have q4 := ab_sheq_ok h2.2
      subst q3
      subst q4
      exact ⟨σ1, σ2, ⟨n1, e1⟩, ⟨n2, e2⟩⟩
    · cases h2
  · cases h
set_option maxRecDepth 100000 in
theorem p1_k_clause : p1_two 400 400 mX7_clause mX8_clause [.inr (.inr 0)] [.inr (.inr 50)] (-100) = true := by decide +kernel
set_option maxRecDepth 100000 in
theorem p1_k_drop : p1_two 400 400 mX7_drop mX8_drop [.inr (.inr 0)] [.inr (.inr 50)] (-2) = true := by decide +kernel
set_option maxRecDepth 100000 in
theorem p1_k_more : p1_two 400 400 mX7_more mX8_more [.inr (.inr 0)] [.inr (.inr 50)] (-2) = true := by decide +kernel
set_option maxRecDepth 100000 in
theorem p1_k_size : p1_two 400 400 mX7_size mX8_size [.inr (.inr 0)] [.inr (.inr 50)] 0 = true := by decide +kernel
set_option maxRecDepth 100000 in
theorem p1_k_tries : p1_two 400 400 mX7_tries mX8_tries [.inr (.inr 0)] [.inr (.inr 50)] 0 = true := by decide +kernel
set_option maxRecDepth 100000 in
theorem p1_k_check : p1_two 400 400 mX7_check mX8_check [.inr (.inr 0)] [.inr (.inr 50)] (-100) = true := by decide +kernel
set_option maxRecDepth 100000 in
theorem p1_k_clauses : p1_two 400 400 mX7_clauses mX8_clauses [.inr (.inr 0)] [.inr (.inr 50)] 0 = true := by decide +kernel

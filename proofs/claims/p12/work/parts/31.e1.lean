/-! reasoning over the abstract machine: methods that make no cells -/
theorem ab_mono : ∀ (n : Nat) {n' : Nat} {M : ab_Me} {pc : Nat} {ls : ab_L} {st : List ab_V} {sh : ab_Sh} {σ : ab_M} {k s : Nat} {r : Option ab_V × ab_Sh × ab_M}, n ≤ n' → ab_run n M pc ls st sh σ k s = some r → ab_run n' M pc ls st sh σ k s = some r := by
  intro n
  induction n with
  | zero => intro n' M pc ls st sh σ k s r _ h; cases h
  | succ n ih =>
    intro n' M pc ls st sh σ k s r hn h
    obtain ⟨n', rfl⟩ : ∃ q, n' = q + 1 := ⟨n' - 1, by omega⟩
    have hn : n ≤ n' := by omega
    unfold ab_run at h ⊢
    split at h
    · exact ih hn h
    · split at h
      · obtain ⟨hb, hh⟩ := ab_bif h
        rw [hb]
        simp only [cond_true]
        split at hh
        · rename_i v sh' σ' hr
          rw [ih hn hr]
          exact ih hn hh
        · cases hh
      · cases h
    · exact h
    · cases h
def ev (M : ab_Me) (pc : Nat) (ls : ab_L) (st : List ab_V) (σ : ab_M) (Q : Option ab_V → ab_M → Prop) : Prop := ∃ n v σ', ab_run n M pc ls st sh0 σ 0 0 = some (v, sh0, σ') ∧ Q v σ'
/-- a whole method -/
def evm (M : ab_Me) (as : List ab_V) (σ : ab_M) (Q : Option ab_V → ab_M → Prop) : Prop := ev M 0 (ab_entry as (me_nl M)) [] σ Q
theorem evm_of {M : ab_Me} {as : List ab_V} {σ : ab_M} {Q : Option ab_V → ab_M → Prop} (h : evm M as σ Q) : ∃ v σ', ev0 M as σ v σ' ∧ Q v σ' := by
  obtain ⟨n, v, σ', h1, h2⟩ := h
  exact ⟨v, σ', ⟨n, h1⟩, h2⟩
theorem ev.imp {M : ab_Me} {pc : Nat} {ls : ab_L} {st : List ab_V} {σ : ab_M} {Q Q' : Option ab_V → ab_M → Prop} (h : ev M pc ls st σ Q) (hq : ∀ v σ', Q v σ' → Q' v σ') : ev M pc ls st σ Q' := by
  obtain ⟨n, v, σ', h1, h2⟩ := h
  exact ⟨n, v, σ', h1, hq v σ' h2⟩
section EV
variable {M : ab_Me} {pc pc' n : Nat} {ls ls' : ab_L} {st st' : List ab_V} {σ σ' : ab_M} {Q : Option ab_V → ab_M → Prop} {i : Jvm.ClassFile.Instr}
theorem ev_next (h : ab_step M pc ls st sh0 σ 0 0 = some (.inl (pc', ls', st', sh0, σ', 0, 0))) (k : ev M pc' ls' st' σ' Q) : ev M pc ls st σ Q := by
  obtain ⟨n, v, τ, h1, h2⟩ := k
  refine ⟨n + 1, v, τ, ?_, h2⟩
  show (match ab_step M pc ls st sh0 σ 0 0 with
    | some (.inl (pc', ls', st', sh', σ', k', s')) => ab_run n M pc' ls' st' sh' σ' k' s'
    | some (.inr (.inl (y, as, r))) => (match tb_M[y]? with
      | some M' => bif Nat.ble (0 + me_mc M') (me_mc M) && Nat.ble (0 + me_ms M') (me_ms M) && Nat.ble (me_fr M' + 1) (me_fr M) && Nat.ble (8 + (me_nl M' + 11) + me_lo M') (me_lo M) && Nat.ble (ab_sl as).length (me_nl M') then
          (match ab_run n M' 0 (ab_entry as (me_nl M')) [] sh0 σ 0 0 with
          | some (v, sh', σ') => ab_run n M (pc + 3) ls (v.toList ++ r) sh' σ' (0 + me_mc M') (0 + me_ms M')
          | none => none) else none
      | none => none)
    | some (.inr (.inr v)) => some (v, sh0, σ)
    | none => none) = _
  rw [h]
  exact h1
theorem ev_do (hd : decode (me_b M) pc = .ok (i, n)) (h : ab_do M i n pc ls st sh0 σ 0 0 = some (.inl (pc', ls', st', sh0, σ', 0, 0))) (k : ev M pc' ls' st' σ' Q) : ev M pc ls st σ Q :=
  ev_next (by unfold ab_step; rw [hd]; exact h) k
theorem ev_ret {v : Option ab_V} (hd : decode (me_b M) pc = .ok (i, n)) (h : ab_do M i n pc ls st sh0 σ 0 0 = some (.inr (.inr v))) (k : Q v σ) : ev M pc ls st σ Q := by
  refine ⟨1, v, σ, ?_, k⟩
  have hs : ab_step M pc ls st sh0 σ 0 0 = some (.inr (.inr v)) := by unfold ab_step; rw [hd]; exact h
  unfold ab_run
  rw [hs]
theorem ev_call {y : Nat} {as r : List ab_V} {M' : ab_Me} {Q1 : Option ab_V → ab_M → Prop} (hd : decode (me_b M) pc = .ok (i, n)) (h : ab_do M i n pc ls st sh0 σ 0 0 = some (.inr (.inl (y, as, r)))) (hM : tb_M[y]? = some M') (hm : me_mc M' = 0 ∧ me_ms M' = 0) (hc : (Nat.ble (me_fr M' + 1) (me_fr M) && Nat.ble (8 + (me_nl M' + 11) + me_lo M') (me_lo M) && Nat.ble (ab_sl as).length (me_nl M')) = true) (hb : evm M' as σ Q1) (hpc : pc + 3 = pc') (k : ∀ v τ, Q1 v τ → ev M pc' ls (v.toList ++ r) τ Q) : ev M pc ls st σ Q := by
  subst hpc
  obtain ⟨n1, v, τ, h1, h2⟩ := hb
  obtain ⟨n2, v2, τ2, h3, h4⟩ := k v τ h2
  refine ⟨max n1 n2 + 1, v2, τ2, ?_, h4⟩
  have hs : ab_step M pc ls st sh0 σ 0 0 = some (.inr (.inl (y, as, r))) := by unfold ab_step; rw [hd]; exact h
  have g1 := ab_mono n1 (Nat.le_max_left n1 n2) h1
  have g2 := ab_mono n2 (Nat.le_max_right n1 n2) h3
  unfold ab_run
  rw [hs]
  simp only [hM]
  rw [hm.1, hm.2]
  simp only [Bool.and_eq_true] at hc
  rw [g1]
  simp only [hc.1.1, hc.1.2, hc.2, Nat.add_zero]
  have z1 : Nat.ble 0 (me_mc M) = true := Nat.ble_eq_true_of_le (Nat.zero_le _)
  have z2 : Nat.ble 0 (me_ms M) = true := Nat.ble_eq_true_of_le (Nat.zero_le _)
  simp only [z1, z2, Bool.and_self, cond_true]
  exact g2
end EV

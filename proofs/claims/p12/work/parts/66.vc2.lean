set_option maxRecDepth 20000 in
theorem s_n_X8_step_0 {σ : ab_M} {Q : Option ab_V → ab_M → Prop} {x1 : Int32}
    (k : evm mX8_symbolOf [.inl x1] σ (fun v τ1 => ∃ r2 : Int32, v = some (.inl r2) ∧ ((x1 < 120 → ((r2 < 0 → ((x1 = 61 → (∀ τ3 : ab_M, τ3 = ab_upd τ1 50 18 ((τ1 50 18) - 2) → ab_in (τ3 50 18) 61 = true ∧ ab_in ((τ3 50 18) + 1) 61 = true ∧ (((τ3 61 (τ3 50 18).toNatClampNeg) < 0 → ab_in (τ3 50 18) 61 = true ∧ (∀ τ4 : ab_M, τ4 = ab_upd τ3 61 (τ3 50 18).toNatClampNeg (-1) → (∀ τ5 : ab_M, τ5 = ab_upd τ4 50 18 ((τ4 50 18) + 1) → Q none τ5))) ∧ (¬ (τ3 61 (τ3 50 18).toNatClampNeg) < 0 → ((0 ≤ (τ3 61 ((τ3 50 18) + 1).toNatClampNeg) → (((τ3 61 (τ3 50 18).toNatClampNeg) = (τ3 61 ((τ3 50 18) + 1).toNatClampNeg) → ab_in (τ3 50 18) 61 = true ∧ (∀ τ4 : ab_M, τ4 = ab_upd τ3 61 (τ3 50 18).toNatClampNeg 1 → (∀ τ5 : ab_M, τ5 = ab_upd τ4 50 18 ((τ4 50 18) + 1) → Q none τ5))) ∧ (¬ (τ3 61 (τ3 50 18).toNatClampNeg) = (τ3 61 ((τ3 50 18) + 1).toNatClampNeg) → ab_in (τ3 50 18) 61 = true ∧ (∀ τ4 : ab_M, τ4 = ab_upd τ3 61 (τ3 50 18).toNatClampNeg 0 → (∀ τ5 : ab_M, τ5 = ab_upd τ4 50 18 ((τ4 50 18) + 1) → Q none τ5))))) ∧ (¬ 0 ≤ (τ3 61 ((τ3 50 18) + 1).toNatClampNeg) → ab_in (τ3 50 18) 61 = true ∧ (∀ τ4 : ab_M, τ4 = ab_upd τ3 61 (τ3 50 18).toNatClampNeg (-1) → (∀ τ5 : ab_M, τ5 = ab_upd τ4 50 18 ((τ4 50 18) + 1) → Q none τ5)))))))) ∧ (¬ x1 = 61 → (∀ τ3 : ab_M, τ3 = ab_upd τ1 50 18 ((τ1 50 18) - 1) → ab_in (τ3 50 18) 61 = true ∧ ((0 ≤ (τ3 61 (τ3 50 18).toNatClampNeg) → ab_in (τ3 50 18) 61 = true ∧ ab_in (τ3 50 18) 61 = true ∧ (∀ τ4 : ab_M, τ4 = ab_upd τ3 61 (τ3 50 18).toNatClampNeg (1 - (τ3 61 (τ3 50 18).toNatClampNeg)) → (∀ τ5 : ab_M, τ5 = ab_upd τ4 50 18 ((τ4 50 18) + 1) → Q none τ5))) ∧ (¬ 0 ≤ (τ3 61 (τ3 50 18).toNatClampNeg) → ab_in (τ3 50 18) 61 = true ∧ (∀ τ4 : ab_M, τ4 = ab_upd τ3 61 (τ3 50 18).toNatClampNeg (-1) → (∀ τ5 : ab_M, τ5 = ab_upd τ4 50 18 ((τ4 50 18) + 1) → Q none τ5)))))))) ∧ (¬ r2 < 0 → evm mX8_cell [.inr (.inr 50), .inl r2] τ1 (fun v τ3 => ∃ r4 : Int32, v = some (.inl r4) ∧ ab_in (τ3 50 18) 61 = true ∧ (∀ τ5 : ab_M, τ5 = ab_upd τ3 61 (τ3 50 18).toNatClampNeg r4 → (∀ τ6 : ab_M, τ6 = ab_upd τ5 50 18 ((τ5 50 18) + 1) → Q none τ6)))))) ∧ (¬ x1 < 120 → ((122 < x1 → ((r2 < 0 → ((x1 = 61 → (∀ τ3 : ab_M, τ3 = ab_upd τ1 50 18 ((τ1 50 18) - 2) → ab_in (τ3 50 18) 61 = true ∧ ab_in ((τ3 50 18) + 1) 61 = true ∧ (((τ3 61 (τ3 50 18).toNatClampNeg) < 0 → ab_in (τ3 50 18) 61 = true ∧ (∀ τ4 : ab_M, τ4 = ab_upd τ3 61 (τ3 50 18).toNatClampNeg (-1) → (∀ τ5 : ab_M, τ5 = ab_upd τ4 50 18 ((τ4 50 18) + 1) → Q none τ5))) ∧ (¬ (τ3 61 (τ3 50 18).toNatClampNeg) < 0 → ((0 ≤ (τ3 61 ((τ3 50 18) + 1).toNatClampNeg) → (((τ3 61 (τ3 50 18).toNatClampNeg) = (τ3 61 ((τ3 50 18) + 1).toNatClampNeg) → ab_in (τ3 50 18) 61 = true ∧ (∀ τ4 : ab_M, τ4 = ab_upd τ3 61 (τ3 50 18).toNatClampNeg 1 → (∀ τ5 : ab_M, τ5 = ab_upd τ4 50 18 ((τ4 50 18) + 1) → Q none τ5))) ∧ (¬ (τ3 61 (τ3 50 18).toNatClampNeg) = (τ3 61 ((τ3 50 18) + 1).toNatClampNeg) → ab_in (τ3 50 18) 61 = true ∧ (∀ τ4 : ab_M, τ4 = ab_upd τ3 61 (τ3 50 18).toNatClampNeg 0 → (∀ τ5 : ab_M, τ5 = ab_upd τ4 50 18 ((τ4 50 18) + 1) → Q none τ5))))) ∧ (¬ 0 ≤ (τ3 61 ((τ3 50 18) + 1).toNatClampNeg) → ab_in (τ3 50 18) 61 = true ∧ (∀ τ4 : ab_M, τ4 = ab_upd τ3 61 (τ3 50 18).toNatClampNeg (-1) → (∀ τ5 : ab_M, τ5 = ab_upd τ4 50 18 ((τ4 50 18) + 1) → Q none τ5)))))))) ∧ (¬ x1 = 61 → (∀ τ3 : ab_M, τ3 = ab_upd τ1 50 18 ((τ1 50 18) - 1) → ab_in (τ3 50 18) 61 = true ∧ ((0 ≤ (τ3 61 (τ3 50 18).toNatClampNeg) → ab_in (τ3 50 18) 61 = true ∧ ab_in (τ3 50 18) 61 = true ∧ (∀ τ4 : ab_M, τ4 = ab_upd τ3 61 (τ3 50 18).toNatClampNeg (1 - (τ3 61 (τ3 50 18).toNatClampNeg)) → (∀ τ5 : ab_M, τ5 = ab_upd τ4 50 18 ((τ4 50 18) + 1) → Q none τ5))) ∧ (¬ 0 ≤ (τ3 61 (τ3 50 18).toNatClampNeg) → ab_in (τ3 50 18) 61 = true ∧ (∀ τ4 : ab_M, τ4 = ab_upd τ3 61 (τ3 50 18).toNatClampNeg (-1) → (∀ τ5 : ab_M, τ5 = ab_upd τ4 50 18 ((τ4 50 18) + 1) → Q none τ5)))))))) ∧ (¬ r2 < 0 → evm mX8_cell [.inr (.inr 50), .inl r2] τ1 (fun v τ3 => ∃ r4 : Int32, v = some (.inl r4) ∧ ab_in (τ3 50 18) 61 = true ∧ (∀ τ5 : ab_M, τ5 = ab_upd τ3 61 (τ3 50 18).toNatClampNeg r4 → (∀ τ6 : ab_M, τ6 = ab_upd τ5 50 18 ((τ5 50 18) + 1) → Q none τ6)))))) ∧ (¬ 122 < x1 → ab_in (x1 - 120) 3 = true ∧ ab_in (τ1 50 18) 61 = true ∧ (∀ τ3 : ab_M, τ3 = ab_upd τ1 61 (τ1 50 18).toNatClampNeg (τ1 59 (x1 - 120).toNatClampNeg) → (∀ τ4 : ab_M, τ4 = ab_upd τ3 50 18 ((τ3 50 18) + 1) → Q none τ4)))))))) :
    ev mX8_step 0 [some (.inr (.inr 50)), some (.inl x1), none, none, none] [] σ Q := by
  refine ev_p (pc' := 1) (ls' := [some (.inr (.inr 50)), some (.inl x1), none, none, none]) (st' := [.inl x1]) dX8_step_0 rfl ?_
  refine ev_call (y := 85) (as := [.inl x1]) (r := []) (M' := mX8_symbolOf) (pc' := 4) dX8_step_1 rfl rfl ⟨rfl, rfl⟩ rfl k rfl (fun v τ1 hq => ?_)
  obtain ⟨r2, hv, k⟩ := hq
  rw [hv]
  change ev mX8_step 4 [some (.inr (.inr 50)), some (.inl x1), none, none, none] [.inl r2] τ1 _
  refine ev_p (pc' := 5) (ls' := [some (.inr (.inr 50)), some (.inl x1), some (.inl r2), none, none]) (st' := []) dX8_step_4 rfl ?_
  refine ev_p (pc' := 6) (ls' := [some (.inr (.inr 50)), some (.inl x1), some (.inl r2), none, none]) (st' := [.inl x1]) dX8_step_5 rfl ?_
  refine ev_cst (v := 120) (pc' := 8) dX8_step_6 (by decide) rfl ?_
  refine ev_ic_lt (tgt := 38) (pc' := 11) dX8_step_8 (by decide) rfl (fun h1 => ?_) (fun h1 => ?_)
  · have k := k.1 h1
    refine ev_p (pc' := 39) (ls' := [some (.inr (.inr 50)), some (.inl x1), some (.inl r2), none, none]) (st' := [.inl r2]) dX8_step_38 rfl ?_
    refine ev_if_lt (tgt := 61) (pc' := 42) dX8_step_39 (by decide) rfl (fun h2 => ?_) (fun h2 => ?_)
    · have k := k.1 h2
      refine ev_p (pc' := 62) (ls' := [some (.inr (.inr 50)), some (.inl x1), some (.inl r2), none, none]) (st' := [.inl x1]) dX8_step_61 rfl ?_
      refine ev_cst (v := 61) (pc' := 64) dX8_step_62 (by decide) rfl ?_
      refine ev_ic_ne (tgt := 136) (pc' := 67) dX8_step_64 (by decide) rfl (fun h3 => ?_) (fun h3 => ?_)
      · have k := k.2 h3
        refine ev_p (pc' := 137) (ls' := [some (.inr (.inr 50)), some (.inl x1), some (.inl r2), none, none]) (st' := [.inr (.inr 50)]) dX8_step_136 rfl ?_
        refine ev_p (pc' := 138) (ls' := [some (.inr (.inr 50)), some (.inl x1), some (.inl r2), none, none]) (st' := [.inr (.inr 50), .inr (.inr 50)]) dX8_step_137 rfl ?_
        refine ev_getI (pc' := 141) dX8_step_138 rfl rfl rfl rfl ?_
        refine ev_cst (v := 1) (pc' := 142) dX8_step_141 (by decide) rfl ?_
        refine ev_p (pc' := 143) (ls' := [some (.inr (.inr 50)), some (.inl x1), some (.inl r2), none, none]) (st' := [.inl ((τ1 50 18) - 1), .inr (.inr 50)]) dX8_step_142 rfl ?_
        refine ev_putI (pc' := 146) dX8_step_143 rfl rfl rfl rfl rfl rfl ?_
        obtain ⟨τ3, hτ3⟩ : ∃ z : ab_M, z = ab_upd τ1 50 18 ((τ1 50 18) - 1) := ⟨_, rfl⟩
        rw [← hτ3]
        have k := k τ3 hτ3
        refine ev_p (pc' := 147) (ls' := [some (.inr (.inr 50)), some (.inl x1), some (.inl r2), none, none]) (st' := [.inr (.inr 50)]) dX8_step_146 rfl ?_
        refine ev_getA (pc' := 150) (z := 61) dX8_step_147 rfl rfl rfl rfl ?_
        refine ev_p (pc' := 151) (ls' := [some (.inr (.inr 50)), some (.inl x1), some (.inl r2), none, none]) (st' := [.inr (.inr 50), .inr (.inr 61)]) dX8_step_150 rfl ?_
        refine ev_getI (pc' := 154) dX8_step_151 rfl rfl rfl rfl ?_
        refine ev_p (pc' := 155) (ls' := [some (.inr (.inr 50)), some (.inl x1), some (.inl r2), none, none]) (st' := [.inr (.inr 50), .inl (τ3 50 18), .inr (.inr 61)]) dX8_step_154 rfl ?_
        refine ev_getA (pc' := 158) (z := 61) dX8_step_155 rfl rfl rfl rfl ?_
        refine ev_p (pc' := 159) (ls' := [some (.inr (.inr 50)), some (.inl x1), some (.inl r2), none, none]) (st' := [.inr (.inr 50), .inr (.inr 61), .inl (τ3 50 18), .inr (.inr 61)]) dX8_step_158 rfl ?_
        refine ev_getI (pc' := 162) dX8_step_159 rfl rfl rfl rfl ?_
        refine ev_load (pc' := 163) rfl dX8_step_162 rfl rfl k.1 rfl ?_
        have k := k.2
        refine ev_if_ge (tgt := 170) (pc' := 166) dX8_step_163 (by decide) rfl (fun h4 => ?_) (fun h4 => ?_)
        · have k := k.1 h4
          refine ev_cst (v := 1) (pc' := 171) dX8_step_170 (by decide) rfl ?_
          refine ev_p (pc' := 172) (ls' := [some (.inr (.inr 50)), some (.inl x1), some (.inl r2), none, none]) (st' := [.inr (.inr 50), .inl 1, .inl (τ3 50 18), .inr (.inr 61)]) dX8_step_171 rfl ?_
          refine ev_getA (pc' := 175) (z := 61) dX8_step_172 rfl rfl rfl rfl ?_
          refine ev_p (pc' := 176) (ls' := [some (.inr (.inr 50)), some (.inl x1), some (.inl r2), none, none]) (st' := [.inr (.inr 50), .inr (.inr 61), .inl 1, .inl (τ3 50 18), .inr (.inr 61)]) dX8_step_175 rfl ?_
          refine ev_getI (pc' := 179) dX8_step_176 rfl rfl rfl rfl ?_
          refine ev_load (pc' := 180) rfl dX8_step_179 rfl rfl k.1 rfl ?_
          have k := k.2
          refine ev_p (pc' := 181) (ls' := [some (.inr (.inr 50)), some (.inl x1), some (.inl r2), none, none]) (st' := [.inl (1 - (τ3 61 (τ3 50 18).toNatClampNeg)), .inl (τ3 50 18), .inr (.inr 61)]) dX8_step_180 rfl ?_
          refine ev_stor (pc' := 182) (z := (1 - (τ3 61 (τ3 50 18).toNatClampNeg))) rfl dX8_step_181 rfl rfl k.1 rfl rfl ?_
          have k := k.2
          obtain ⟨τ4, hτ4⟩ : ∃ z : ab_M, z = ab_upd τ3 61 (τ3 50 18).toNatClampNeg (1 - (τ3 61 (τ3 50 18).toNatClampNeg)) := ⟨_, rfl⟩
          rw [← hτ4]
          have k := k τ4 hτ4
          refine ev_p (pc' := 183) (ls' := [some (.inr (.inr 50)), some (.inl x1), some (.inl r2), none, none]) (st' := [.inr (.inr 50)]) dX8_step_182 rfl ?_
          refine ev_p (pc' := 184) (ls' := [some (.inr (.inr 50)), some (.inl x1), some (.inl r2), none, none]) (st' := [.inr (.inr 50), .inr (.inr 50)]) dX8_step_183 rfl ?_
          refine ev_getI (pc' := 187) dX8_step_184 rfl rfl rfl rfl ?_
          refine ev_cst (v := 1) (pc' := 188) dX8_step_187 (by decide) rfl ?_
          refine ev_p (pc' := 189) (ls' := [some (.inr (.inr 50)), some (.inl x1), some (.inl r2), none, none]) (st' := [.inl ((τ4 50 18) + 1), .inr (.inr 50)]) dX8_step_188 rfl ?_
          refine ev_putI (pc' := 192) dX8_step_189 rfl rfl rfl rfl rfl rfl ?_
          obtain ⟨τ5, hτ5⟩ : ∃ z : ab_M, z = ab_upd τ4 50 18 ((τ4 50 18) + 1) := ⟨_, rfl⟩
          rw [← hτ5]
          have k := k τ5 hτ5
          exact ev_ret dX8_step_192 rfl k
        · have k := k.2 h4
          refine ev_cst (v := (-1)) (pc' := 167) dX8_step_166 (by decide) rfl ?_
          refine ev_go (tgt := 181) dX8_step_167 (by decide) ?_
          refine ev_stor (pc' := 182) (z := (-1)) rfl dX8_step_181 rfl rfl k.1 rfl rfl ?_
          have k := k.2
          obtain ⟨τ4, hτ4⟩ : ∃ z : ab_M, z = ab_upd τ3 61 (τ3 50 18).toNatClampNeg (-1) := ⟨_, rfl⟩
          rw [← hτ4]
          have k := k τ4 hτ4
          refine ev_p (pc' := 183) (ls' := [some (.inr (.inr 50)), some (.inl x1), some (.inl r2), none, none]) (st' := [.inr (.inr 50)]) dX8_step_182 rfl ?_
          refine ev_p (pc' := 184) (ls' := [some (.inr (.inr 50)), some (.inl x1), some (.inl r2), none, none]) (st' := [.inr (.inr 50), .inr (.inr 50)]) dX8_step_183 rfl ?_
          refine ev_getI (pc' := 187) dX8_step_184 rfl rfl rfl rfl ?_
          refine ev_cst (v := 1) (pc' := 188) dX8_step_187 (by decide) rfl ?_
          refine ev_p (pc' := 189) (ls' := [some (.inr (.inr 50)), some (.inl x1), some (.inl r2), none, none]) (st' := [.inl ((τ4 50 18) + 1), .inr (.inr 50)]) dX8_step_188 rfl ?_
          refine ev_putI (pc' := 192) dX8_step_189 rfl rfl rfl rfl rfl rfl ?_
          obtain ⟨τ5, hτ5⟩ : ∃ z : ab_M, z = ab_upd τ4 50 18 ((τ4 50 18) + 1) := ⟨_, rfl⟩
          rw [← hτ5]
          have k := k τ5 hτ5
          exact ev_ret dX8_step_192 rfl k
      · have k := k.1 h3
        refine ev_p (pc' := 68) (ls' := [some (.inr (.inr 50)), some (.inl x1), some (.inl r2), none, none]) (st' := [.inr (.inr 50)]) dX8_step_67 rfl ?_
        refine ev_p (pc' := 69) (ls' := [some (.inr (.inr 50)), some (.inl x1), some (.inl r2), none, none]) (st' := [.inr (.inr 50), .inr (.inr 50)]) dX8_step_68 rfl ?_
        refine ev_getI (pc' := 72) dX8_step_69 rfl rfl rfl rfl ?_
        refine ev_cst (v := 2) (pc' := 73) dX8_step_72 (by decide) rfl ?_
        refine ev_p (pc' := 74) (ls' := [some (.inr (.inr 50)), some (.inl x1), some (.inl r2), none, none]) (st' := [.inl ((τ1 50 18) - 2), .inr (.inr 50)]) dX8_step_73 rfl ?_
        refine ev_putI (pc' := 77) dX8_step_74 rfl rfl rfl rfl rfl rfl ?_
        obtain ⟨τ3, hτ3⟩ : ∃ z : ab_M, z = ab_upd τ1 50 18 ((τ1 50 18) - 2) := ⟨_, rfl⟩
        rw [← hτ3]
        have k := k τ3 hτ3
        refine ev_p (pc' := 78) (ls' := [some (.inr (.inr 50)), some (.inl x1), some (.inl r2), none, none]) (st' := [.inr (.inr 50)]) dX8_step_77 rfl ?_
        refine ev_getA (pc' := 81) (z := 61) dX8_step_78 rfl rfl rfl rfl ?_
        refine ev_p (pc' := 82) (ls' := [some (.inr (.inr 50)), some (.inl x1), some (.inl r2), none, none]) (st' := [.inr (.inr 50), .inr (.inr 61)]) dX8_step_81 rfl ?_
        refine ev_getI (pc' := 85) dX8_step_82 rfl rfl rfl rfl ?_
        refine ev_load (pc' := 86) rfl dX8_step_85 rfl rfl k.1 rfl ?_
        have k := k.2
        refine ev_p (pc' := 87) (ls' := [some (.inr (.inr 50)), some (.inl x1), some (.inl r2), some (.inl (τ3 61 (τ3 50 18).toNatClampNeg)), none]) (st' := []) dX8_step_86 rfl ?_
        refine ev_p (pc' := 88) (ls' := [some (.inr (.inr 50)), some (.inl x1), some (.inl r2), some (.inl (τ3 61 (τ3 50 18).toNatClampNeg)), none]) (st' := [.inr (.inr 50)]) dX8_step_87 rfl ?_
        refine ev_getA (pc' := 91) (z := 61) dX8_step_88 rfl rfl rfl rfl ?_
        refine ev_p (pc' := 92) (ls' := [some (.inr (.inr 50)), some (.inl x1), some (.inl r2), some (.inl (τ3 61 (τ3 50 18).toNatClampNeg)), none]) (st' := [.inr (.inr 50), .inr (.inr 61)]) dX8_step_91 rfl ?_
        refine ev_getI (pc' := 95) dX8_step_92 rfl rfl rfl rfl ?_
        refine ev_cst (v := 1) (pc' := 96) dX8_step_95 (by decide) rfl ?_
        refine ev_p (pc' := 97) (ls' := [some (.inr (.inr 50)), some (.inl x1), some (.inl r2), some (.inl (τ3 61 (τ3 50 18).toNatClampNeg)), none]) (st' := [.inl ((τ3 50 18) + 1), .inr (.inr 61)]) dX8_step_96 rfl ?_
        refine ev_load (pc' := 98) rfl dX8_step_97 rfl rfl k.1 rfl ?_
        have k := k.2
        refine ev_p (pc' := 100) (ls' := [some (.inr (.inr 50)), some (.inl x1), some (.inl r2), some (.inl (τ3 61 (τ3 50 18).toNatClampNeg)), some (.inl (τ3 61 ((τ3 50 18) + 1).toNatClampNeg))]) (st' := []) dX8_step_98 rfl ?_
        refine ev_p (pc' := 101) (ls' := [some (.inr (.inr 50)), some (.inl x1), some (.inl r2), some (.inl (τ3 61 (τ3 50 18).toNatClampNeg)), some (.inl (τ3 61 ((τ3 50 18) + 1).toNatClampNeg))]) (st' := [.inr (.inr 50)]) dX8_step_100 rfl ?_
        refine ev_getA (pc' := 104) (z := 61) dX8_step_101 rfl rfl rfl rfl ?_
        refine ev_p (pc' := 105) (ls' := [some (.inr (.inr 50)), some (.inl x1), some (.inl r2), some (.inl (τ3 61 (τ3 50 18).toNatClampNeg)), some (.inl (τ3 61 ((τ3 50 18) + 1).toNatClampNeg))]) (st' := [.inr (.inr 50), .inr (.inr 61)]) dX8_step_104 rfl ?_
        refine ev_getI (pc' := 108) dX8_step_105 rfl rfl rfl rfl ?_
        refine ev_p (pc' := 109) (ls' := [some (.inr (.inr 50)), some (.inl x1), some (.inl r2), some (.inl (τ3 61 (τ3 50 18).toNatClampNeg)), some (.inl (τ3 61 ((τ3 50 18) + 1).toNatClampNeg))]) (st' := [.inl (τ3 61 (τ3 50 18).toNatClampNeg), .inl (τ3 50 18), .inr (.inr 61)]) dX8_step_108 rfl ?_
        refine ev_if_lt (tgt := 117) (pc' := 112) dX8_step_109 (by decide) rfl (fun h5 => ?_) (fun h5 => ?_)
        · have k := k.1 h5
          refine ev_cst (v := (-1)) (pc' := 118) dX8_step_117 (by decide) rfl ?_
          refine ev_go (tgt := 132) dX8_step_118 (by decide) ?_
          refine ev_stor (pc' := 133) (z := (-1)) rfl dX8_step_132 rfl rfl k.1 rfl rfl ?_
          have k := k.2
          obtain ⟨τ4, hτ4⟩ : ∃ z : ab_M, z = ab_upd τ3 61 (τ3 50 18).toNatClampNeg (-1) := ⟨_, rfl⟩
          rw [← hτ4]
          have k := k τ4 hτ4
          refine ev_go (tgt := 182) dX8_step_133 (by decide) ?_
          refine ev_p (pc' := 183) (ls' := [some (.inr (.inr 50)), some (.inl x1), some (.inl r2), some (.inl (τ3 61 (τ3 50 18).toNatClampNeg)), some (.inl (τ3 61 ((τ3 50 18) + 1).toNatClampNeg))]) (st' := [.inr (.inr 50)]) dX8_step_182 rfl ?_
          refine ev_p (pc' := 184) (ls' := [some (.inr (.inr 50)), some (.inl x1), some (.inl r2), some (.inl (τ3 61 (τ3 50 18).toNatClampNeg)), some (.inl (τ3 61 ((τ3 50 18) + 1).toNatClampNeg))]) (st' := [.inr (.inr 50), .inr (.inr 50)]) dX8_step_183 rfl ?_
          refine ev_getI (pc' := 187) dX8_step_184 rfl rfl rfl rfl ?_
          refine ev_cst (v := 1) (pc' := 188) dX8_step_187 (by decide) rfl ?_
          refine ev_p (pc' := 189) (ls' := [some (.inr (.inr 50)), some (.inl x1), some (.inl r2), some (.inl (τ3 61 (τ3 50 18).toNatClampNeg)), some (.inl (τ3 61 ((τ3 50 18) + 1).toNatClampNeg))]) (st' := [.inl ((τ4 50 18) + 1), .inr (.inr 50)]) dX8_step_188 rfl ?_
          refine ev_putI (pc' := 192) dX8_step_189 rfl rfl rfl rfl rfl rfl ?_
          obtain ⟨τ5, hτ5⟩ : ∃ z : ab_M, z = ab_upd τ4 50 18 ((τ4 50 18) + 1) := ⟨_, rfl⟩
          rw [← hτ5]
          have k := k τ5 hτ5
          exact ev_ret dX8_step_192 rfl k
        · have k := k.2 h5
          refine ev_p (pc' := 114) (ls' := [some (.inr (.inr 50)), some (.inl x1), some (.inl r2), some (.inl (τ3 61 (τ3 50 18).toNatClampNeg)), some (.inl (τ3 61 ((τ3 50 18) + 1).toNatClampNeg))]) (st' := [.inl (τ3 61 ((τ3 50 18) + 1).toNatClampNeg), .inl (τ3 50 18), .inr (.inr 61)]) dX8_step_112 rfl ?_
          refine ev_if_ge (tgt := 121) (pc' := 117) dX8_step_114 (by decide) rfl (fun h6 => ?_) (fun h6 => ?_)
          · have k := k.1 h6
            refine ev_p (pc' := 122) (ls' := [some (.inr (.inr 50)), some (.inl x1), some (.inl r2), some (.inl (τ3 61 (τ3 50 18).toNatClampNeg)), some (.inl (τ3 61 ((τ3 50 18) + 1).toNatClampNeg))]) (st' := [.inl (τ3 61 (τ3 50 18).toNatClampNeg), .inl (τ3 50 18), .inr (.inr 61)]) dX8_step_121 rfl ?_
            refine ev_p (pc' := 124) (ls' := [some (.inr (.inr 50)), some (.inl x1), some (.inl r2), some (.inl (τ3 61 (τ3 50 18).toNatClampNeg)), some (.inl (τ3 61 ((τ3 50 18) + 1).toNatClampNeg))]) (st' := [.inl (τ3 61 ((τ3 50 18) + 1).toNatClampNeg), .inl (τ3 61 (τ3 50 18).toNatClampNeg), .inl (τ3 50 18), .inr (.inr 61)]) dX8_step_122 rfl ?_
            refine ev_ic_ne (tgt := 131) (pc' := 127) dX8_step_124 (by decide) rfl (fun h7 => ?_) (fun h7 => ?_)
            · have k := k.2 h7
              refine ev_cst (v := 0) (pc' := 132) dX8_step_131 (by decide) rfl ?_
              refine ev_stor (pc' := 133) (z := 0) rfl dX8_step_132 rfl rfl k.1 rfl rfl ?_
              have k := k.2
              obtain ⟨τ4, hτ4⟩ : ∃ z : ab_M, z = ab_upd τ3 61 (τ3 50 18).toNatClampNeg 0 := ⟨_, rfl⟩
              rw [← hτ4]
              have k := k τ4 hτ4
              refine ev_go (tgt := 182) dX8_step_133 (by decide) ?_
              refine ev_p (pc' := 183) (ls' := [some (.inr (.inr 50)), some (.inl x1), some (.inl r2), some (.inl (τ3 61 (τ3 50 18).toNatClampNeg)), some (.inl (τ3 61 ((τ3 50 18) + 1).toNatClampNeg))]) (st' := [.inr (.inr 50)]) dX8_step_182 rfl ?_
              refine ev_p (pc' := 184) (ls' := [some (.inr (.inr 50)), some (.inl x1), some (.inl r2), some (.inl (τ3 61 (τ3 50 18).toNatClampNeg)), some (.inl (τ3 61 ((τ3 50 18) + 1).toNatClampNeg))]) (st' := [.inr (.inr 50), .inr (.inr 50)]) dX8_step_183 rfl ?_
              refine ev_getI (pc' := 187) dX8_step_184 rfl rfl rfl rfl ?_
              refine ev_cst (v := 1) (pc' := 188) dX8_step_187 (by decide) rfl ?_
              refine ev_p (pc' := 189) (ls' := [some (.inr (.inr 50)), some (.inl x1), some (.inl r2), some (.inl (τ3 61 (τ3 50 18).toNatClampNeg)), some (.inl (τ3 61 ((τ3 50 18) + 1).toNatClampNeg))]) (st' := [.inl ((τ4 50 18) + 1), .inr (.inr 50)]) dX8_step_188 rfl ?_
              refine ev_putI (pc' := 192) dX8_step_189 rfl rfl rfl rfl rfl rfl ?_
              obtain ⟨τ5, hτ5⟩ : ∃ z : ab_M, z = ab_upd τ4 50 18 ((τ4 50 18) + 1) := ⟨_, rfl⟩
              rw [← hτ5]
              have k := k τ5 hτ5
              exact ev_ret dX8_step_192 rfl k
            · have k := k.1 h7
              refine ev_cst (v := 1) (pc' := 128) dX8_step_127 (by decide) rfl ?_
              refine ev_go (tgt := 132) dX8_step_128 (by decide) ?_
              refine ev_stor (pc' := 133) (z := 1) rfl dX8_step_132 rfl rfl k.1 rfl rfl ?_
              have k := k.2
              obtain ⟨τ4, hτ4⟩ : ∃ z : ab_M, z = ab_upd τ3 61 (τ3 50 18).toNatClampNeg 1 := ⟨_, rfl⟩
              rw [← hτ4]
              have k := k τ4 hτ4
              refine ev_go (tgt := 182) dX8_step_133 (by decide) ?_
              refine ev_p (pc' := 183) (ls' := [some (.inr (.inr 50)), some (.inl x1), some (.inl r2), some (.inl (τ3 61 (τ3 50 18).toNatClampNeg)), some (.inl (τ3 61 ((τ3 50 18) + 1).toNatClampNeg))]) (st' := [.inr (.inr 50)]) dX8_step_182 rfl ?_
              refine ev_p (pc' := 184) (ls' := [some (.inr (.inr 50)), some (.inl x1), some (.inl r2), some (.inl (τ3 61 (τ3 50 18).toNatClampNeg)), some (.inl (τ3 61 ((τ3 50 18) + 1).toNatClampNeg))]) (st' := [.inr (.inr 50), .inr (.inr 50)]) dX8_step_183 rfl ?_
              refine ev_getI (pc' := 187) dX8_step_184 rfl rfl rfl rfl ?_
              refine ev_cst (v := 1) (pc' := 188) dX8_step_187 (by decide) rfl ?_
              refine ev_p (pc' := 189) (ls' := [some (.inr (.inr 50)), some (.inl x1), some (.inl r2), some (.inl (τ3 61 (τ3 50 18).toNatClampNeg)), some (.inl (τ3 61 ((τ3 50 18) + 1).toNatClampNeg))]) (st' := [.inl ((τ4 50 18) + 1), .inr (.inr 50)]) dX8_step_188 rfl ?_
              refine ev_putI (pc' := 192) dX8_step_189 rfl rfl rfl rfl rfl rfl ?_
              obtain ⟨τ5, hτ5⟩ : ∃ z : ab_M, z = ab_upd τ4 50 18 ((τ4 50 18) + 1) := ⟨_, rfl⟩
              rw [← hτ5]
              have k := k τ5 hτ5
              exact ev_ret dX8_step_192 rfl k
          · have k := k.2 h6
            refine ev_cst (v := (-1)) (pc' := 118) dX8_step_117 (by decide) rfl ?_
            refine ev_go (tgt := 132) dX8_step_118 (by decide) ?_
            refine ev_stor (pc' := 133) (z := (-1)) rfl dX8_step_132 rfl rfl k.1 rfl rfl ?_
            have k := k.2
            obtain ⟨τ4, hτ4⟩ : ∃ z : ab_M, z = ab_upd τ3 61 (τ3 50 18).toNatClampNeg (-1) := ⟨_, rfl⟩
            rw [← hτ4]
            have k := k τ4 hτ4
            refine ev_go (tgt := 182) dX8_step_133 (by decide) ?_
            refine ev_p (pc' := 183) (ls' := [some (.inr (.inr 50)), some (.inl x1), some (.inl r2), some (.inl (τ3 61 (τ3 50 18).toNatClampNeg)), some (.inl (τ3 61 ((τ3 50 18) + 1).toNatClampNeg))]) (st' := [.inr (.inr 50)]) dX8_step_182 rfl ?_
            refine ev_p (pc' := 184) (ls' := [some (.inr (.inr 50)), some (.inl x1), some (.inl r2), some (.inl (τ3 61 (τ3 50 18).toNatClampNeg)), some (.inl (τ3 61 ((τ3 50 18) + 1).toNatClampNeg))]) (st' := [.inr (.inr 50), .inr (.inr 50)]) dX8_step_183 rfl ?_
            refine ev_getI (pc' := 187) dX8_step_184 rfl rfl rfl rfl ?_
            refine ev_cst (v := 1) (pc' := 188) dX8_step_187 (by decide) rfl ?_
            refine ev_p (pc' := 189) (ls' := [some (.inr (.inr 50)), some (.inl x1), some (.inl r2), some (.inl (τ3 61 (τ3 50 18).toNatClampNeg)), some (.inl (τ3 61 ((τ3 50 18) + 1).toNatClampNeg))]) (st' := [.inl ((τ4 50 18) + 1), .inr (.inr 50)]) dX8_step_188 rfl ?_
            refine ev_putI (pc' := 192) dX8_step_189 rfl rfl rfl rfl rfl rfl ?_
            obtain ⟨τ5, hτ5⟩ : ∃ z : ab_M, z = ab_upd τ4 50 18 ((τ4 50 18) + 1) := ⟨_, rfl⟩
            rw [← hτ5]
            have k := k τ5 hτ5
            exact ev_ret dX8_step_192 rfl k
    · have k := k.2 h2
      refine ev_p (pc' := 43) (ls' := [some (.inr (.inr 50)), some (.inl x1), some (.inl r2), none, none]) (st' := [.inr (.inr 50)]) dX8_step_42 rfl ?_
      refine ev_p (pc' := 44) (ls' := [some (.inr (.inr 50)), some (.inl x1), some (.inl r2), none, none]) (st' := [.inl r2, .inr (.inr 50)]) dX8_step_43 rfl ?_
      refine ev_call (y := 102) (as := [.inr (.inr 50), .inl r2]) (r := []) (M' := mX8_cell) (pc' := 47) dX8_step_44 rfl rfl ⟨rfl, rfl⟩ rfl k rfl (fun v τ3 hq => ?_)
      obtain ⟨r4, hv, k⟩ := hq
      rw [hv]
      change ev mX8_step 47 [some (.inr (.inr 50)), some (.inl x1), some (.inl r2), none, none] [.inl r4] τ3 _
      refine ev_p (pc' := 48) (ls' := [some (.inr (.inr 50)), some (.inl x1), some (.inl r2), some (.inl r4), none]) (st' := []) dX8_step_47 rfl ?_
      refine ev_p (pc' := 49) (ls' := [some (.inr (.inr 50)), some (.inl x1), some (.inl r2), some (.inl r4), none]) (st' := [.inr (.inr 50)]) dX8_step_48 rfl ?_
      refine ev_getA (pc' := 52) (z := 61) dX8_step_49 rfl rfl rfl rfl ?_
      refine ev_p (pc' := 53) (ls' := [some (.inr (.inr 50)), some (.inl x1), some (.inl r2), some (.inl r4), none]) (st' := [.inr (.inr 50), .inr (.inr 61)]) dX8_step_52 rfl ?_
      refine ev_getI (pc' := 56) dX8_step_53 rfl rfl rfl rfl ?_
      refine ev_p (pc' := 57) (ls' := [some (.inr (.inr 50)), some (.inl x1), some (.inl r2), some (.inl r4), none]) (st' := [.inl r4, .inl (τ3 50 18), .inr (.inr 61)]) dX8_step_56 rfl ?_
      refine ev_stor (pc' := 58) (z := r4) rfl dX8_step_57 rfl rfl k.1 rfl rfl ?_
      have k := k.2
      obtain ⟨τ5, hτ5⟩ : ∃ z : ab_M, z = ab_upd τ3 61 (τ3 50 18).toNatClampNeg r4 := ⟨_, rfl⟩
      rw [← hτ5]
      have k := k τ5 hτ5
      refine ev_go (tgt := 182) dX8_step_58 (by decide) ?_
      refine ev_p (pc' := 183) (ls' := [some (.inr (.inr 50)), some (.inl x1), some (.inl r2), some (.inl r4), none]) (st' := [.inr (.inr 50)]) dX8_step_182 rfl ?_
      refine ev_p (pc' := 184) (ls' := [some (.inr (.inr 50)), some (.inl x1), some (.inl r2), some (.inl r4), none]) (st' := [.inr (.inr 50), .inr (.inr 50)]) dX8_step_183 rfl ?_
      refine ev_getI (pc' := 187) dX8_step_184 rfl rfl rfl rfl ?_
      refine ev_cst (v := 1) (pc' := 188) dX8_step_187 (by decide) rfl ?_
      refine ev_p (pc' := 189) (ls' := [some (.inr (.inr 50)), some (.inl x1), some (.inl r2), some (.inl r4), none]) (st' := [.inl ((τ5 50 18) + 1), .inr (.inr 50)]) dX8_step_188 rfl ?_
      refine ev_putI (pc' := 192) dX8_step_189 rfl rfl rfl rfl rfl rfl ?_
      obtain ⟨τ6, hτ6⟩ : ∃ z : ab_M, z = ab_upd τ5 50 18 ((τ5 50 18) + 1) := ⟨_, rfl⟩
      rw [← hτ6]
      have k := k τ6 hτ6
      exact ev_ret dX8_step_192 rfl k
  · have k := k.2 h1
    refine ev_p (pc' := 12) (ls' := [some (.inr (.inr 50)), some (.inl x1), some (.inl r2), none, none]) (st' := [.inl x1]) dX8_step_11 rfl ?_
    refine ev_cst (v := 122) (pc' := 14) dX8_step_12 (by decide) rfl ?_
    refine ev_ic_gt (tgt := 38) (pc' := 17) dX8_step_14 (by decide) rfl (fun h8 => ?_) (fun h8 => ?_)
    · have k := k.1 h8
      refine ev_p (pc' := 39) (ls' := [some (.inr (.inr 50)), some (.inl x1), some (.inl r2), none, none]) (st' := [.inl r2]) dX8_step_38 rfl ?_
      refine ev_if_lt (tgt := 61) (pc' := 42) dX8_step_39 (by decide) rfl (fun h9 => ?_) (fun h9 => ?_)
      · have k := k.1 h9
        refine ev_p (pc' := 62) (ls' := [some (.inr (.inr 50)), some (.inl x1), some (.inl r2), none, none]) (st' := [.inl x1]) dX8_step_61 rfl ?_
        refine ev_cst (v := 61) (pc' := 64) dX8_step_62 (by decide) rfl ?_
        refine ev_ic_ne (tgt := 136) (pc' := 67) dX8_step_64 (by decide) rfl (fun h10 => ?_) (fun h10 => ?_)
        · have k := k.2 h10
          refine ev_p (pc' := 137) (ls' := [some (.inr (.inr 50)), some (.inl x1), some (.inl r2), none, none]) (st' := [.inr (.inr 50)]) dX8_step_136 rfl ?_
          refine ev_p (pc' := 138) (ls' := [some (.inr (.inr 50)), some (.inl x1), some (.inl r2), none, none]) (st' := [.inr (.inr 50), .inr (.inr 50)]) dX8_step_137 rfl ?_
          refine ev_getI (pc' := 141) dX8_step_138 rfl rfl rfl rfl ?_
          refine ev_cst (v := 1) (pc' := 142) dX8_step_141 (by decide) rfl ?_
          refine ev_p (pc' := 143) (ls' := [some (.inr (.inr 50)), some (.inl x1), some (.inl r2), none, none]) (st' := [.inl ((τ1 50 18) - 1), .inr (.inr 50)]) dX8_step_142 rfl ?_
          refine ev_putI (pc' := 146) dX8_step_143 rfl rfl rfl rfl rfl rfl ?_
          obtain ⟨τ3, hτ3⟩ : ∃ z : ab_M, z = ab_upd τ1 50 18 ((τ1 50 18) - 1) := ⟨_, rfl⟩
          rw [← hτ3]
          have k := k τ3 hτ3
          refine ev_p (pc' := 147) (ls' := [some (.inr (.inr 50)), some (.inl x1), some (.inl r2), none, none]) (st' := [.inr (.inr 50)]) dX8_step_146 rfl ?_
          refine ev_getA (pc' := 150) (z := 61) dX8_step_147 rfl rfl rfl rfl ?_
          refine ev_p (pc' := 151) (ls' := [some (.inr (.inr 50)), some (.inl x1), some (.inl r2), none, none]) (st' := [.inr (.inr 50), .inr (.inr 61)]) dX8_step_150 rfl ?_
          refine ev_getI (pc' := 154) dX8_step_151 rfl rfl rfl rfl ?_
          refine ev_p (pc' := 155) (ls' := [some (.inr (.inr 50)), some (.inl x1), some (.inl r2), none, none]) (st' := [.inr (.inr 50), .inl (τ3 50 18), .inr (.inr 61)]) dX8_step_154 rfl ?_
          refine ev_getA (pc' := 158) (z := 61) dX8_step_155 rfl rfl rfl rfl ?_
          refine ev_p (pc' := 159) (ls' := [some (.inr (.inr 50)), some (.inl x1), some (.inl r2), none, none]) (st' := [.inr (.inr 50), .inr (.inr 61), .inl (τ3 50 18), .inr (.inr 61)]) dX8_step_158 rfl ?_
          refine ev_getI (pc' := 162) dX8_step_159 rfl rfl rfl rfl ?_
          refine ev_load (pc' := 163) rfl dX8_step_162 rfl rfl k.1 rfl ?_
          have k := k.2
          refine ev_if_ge (tgt := 170) (pc' := 166) dX8_step_163 (by decide) rfl (fun h11 => ?_) (fun h11 => ?_)
          · have k := k.1 h11
            refine ev_cst (v := 1) (pc' := 171) dX8_step_170 (by decide) rfl ?_
            refine ev_p (pc' := 172) (ls' := [some (.inr (.inr 50)), some (.inl x1), some (.inl r2), none, none]) (st' := [.inr (.inr 50), .inl 1, .inl (τ3 50 18), .inr (.inr 61)]) dX8_step_171 rfl ?_
            refine ev_getA (pc' := 175) (z := 61) dX8_step_172 rfl rfl rfl rfl ?_
            refine ev_p (pc' := 176) (ls' := [some (.inr (.inr 50)), some (.inl x1), some (.inl r2), none, none]) (st' := [.inr (.inr 50), .inr (.inr 61), .inl 1, .inl (τ3 50 18), .inr (.inr 61)]) dX8_step_175 rfl ?_
            refine ev_getI (pc' := 179) dX8_step_176 rfl rfl rfl rfl ?_
            refine ev_load (pc' := 180) rfl dX8_step_179 rfl rfl k.1 rfl ?_
            have k := k.2
            refine ev_p (pc' := 181) (ls' := [some (.inr (.inr 50)), some (.inl x1), some (.inl r2), none, none]) (st' := [.inl (1 - (τ3 61 (τ3 50 18).toNatClampNeg)), .inl (τ3 50 18), .inr (.inr 61)]) dX8_step_180 rfl ?_
            refine ev_stor (pc' := 182) (z := (1 - (τ3 61 (τ3 50 18).toNatClampNeg))) rfl dX8_step_181 rfl rfl k.1 rfl rfl ?_
            have k := k.2
            obtain ⟨τ4, hτ4⟩ : ∃ z : ab_M, z = ab_upd τ3 61 (τ3 50 18).toNatClampNeg (1 - (τ3 61 (τ3 50 18).toNatClampNeg)) := ⟨_, rfl⟩
            rw [← hτ4]
            have k := k τ4 hτ4
            refine ev_p (pc' := 183) (ls' := [some (.inr (.inr 50)), some (.inl x1), some (.inl r2), none, none]) (st' := [.inr (.inr 50)]) dX8_step_182 rfl ?_
            refine ev_p (pc' := 184) (ls' := [some (.inr (.inr 50)), some (.inl x1), some (.inl r2), none, none]) (st' := [.inr (.inr 50), .inr (.inr 50)]) dX8_step_183 rfl ?_
            refine ev_getI (pc' := 187) dX8_step_184 rfl rfl rfl rfl ?_
            refine ev_cst (v := 1) (pc' := 188) dX8_step_187 (by decide) rfl ?_
            refine ev_p (pc' := 189) (ls' := [some (.inr (.inr 50)), some (.inl x1), some (.inl r2), none, none]) (st' := [.inl ((τ4 50 18) + 1), .inr (.inr 50)]) dX8_step_188 rfl ?_
            refine ev_putI (pc' := 192) dX8_step_189 rfl rfl rfl rfl rfl rfl ?_
            obtain ⟨τ5, hτ5⟩ : ∃ z : ab_M, z = ab_upd τ4 50 18 ((τ4 50 18) + 1) := ⟨_, rfl⟩
            rw [← hτ5]
            have k := k τ5 hτ5
            exact ev_ret dX8_step_192 rfl k
          · have k := k.2 h11
            refine ev_cst (v := (-1)) (pc' := 167) dX8_step_166 (by decide) rfl ?_
            refine ev_go (tgt := 181) dX8_step_167 (by decide) ?_
            refine ev_stor (pc' := 182) (z := (-1)) rfl dX8_step_181 rfl rfl k.1 rfl rfl ?_
            have k := k.2
            obtain ⟨τ4, hτ4⟩ : ∃ z : ab_M, z = ab_upd τ3 61 (τ3 50 18).toNatClampNeg (-1) := ⟨_, rfl⟩
            rw [← hτ4]
            have k := k τ4 hτ4
            refine ev_p (pc' := 183) (ls' := [some (.inr (.inr 50)), some (.inl x1), some (.inl r2), none, none]) (st' := [.inr (.inr 50)]) dX8_step_182 rfl ?_
            refine ev_p (pc' := 184) (ls' := [some (.inr (.inr 50)), some (.inl x1), some (.inl r2), none, none]) (st' := [.inr (.inr 50), .inr (.inr 50)]) dX8_step_183 rfl ?_
            refine ev_getI (pc' := 187) dX8_step_184 rfl rfl rfl rfl ?_
            refine ev_cst (v := 1) (pc' := 188) dX8_step_187 (by decide) rfl ?_
            refine ev_p (pc' := 189) (ls' := [some (.inr (.inr 50)), some (.inl x1), some (.inl r2), none, none]) (st' := [.inl ((τ4 50 18) + 1), .inr (.inr 50)]) dX8_step_188 rfl ?_
            refine ev_putI (pc' := 192) dX8_step_189 rfl rfl rfl rfl rfl rfl ?_
            obtain ⟨τ5, hτ5⟩ : ∃ z : ab_M, z = ab_upd τ4 50 18 ((τ4 50 18) + 1) := ⟨_, rfl⟩
            rw [← hτ5]
            have k := k τ5 hτ5
            exact ev_ret dX8_step_192 rfl k
        · have k := k.1 h10
          refine ev_p (pc' := 68) (ls' := [some (.inr (.inr 50)), some (.inl x1), some (.inl r2), none, none]) (st' := [.inr (.inr 50)]) dX8_step_67 rfl ?_
          refine ev_p (pc' := 69) (ls' := [some (.inr (.inr 50)), some (.inl x1), some (.inl r2), none, none]) (st' := [.inr (.inr 50), .inr (.inr 50)]) dX8_step_68 rfl ?_
          refine ev_getI (pc' := 72) dX8_step_69 rfl rfl rfl rfl ?_
          refine ev_cst (v := 2) (pc' := 73) dX8_step_72 (by decide) rfl ?_
          refine ev_p (pc' := 74) (ls' := [some (.inr (.inr 50)), some (.inl x1), some (.inl r2), none, none]) (st' := [.inl ((τ1 50 18) - 2), .inr (.inr 50)]) dX8_step_73 rfl ?_
          refine ev_putI (pc' := 77) dX8_step_74 rfl rfl rfl rfl rfl rfl ?_
          obtain ⟨τ3, hτ3⟩ : ∃ z : ab_M, z = ab_upd τ1 50 18 ((τ1 50 18) - 2) := ⟨_, rfl⟩
          rw [← hτ3]
          have k := k τ3 hτ3
          refine ev_p (pc' := 78) (ls' := [some (.inr (.inr 50)), some (.inl x1), some (.inl r2), none, none]) (st' := [.inr (.inr 50)]) dX8_step_77 rfl ?_
          refine ev_getA (pc' := 81) (z := 61) dX8_step_78 rfl rfl rfl rfl ?_
          refine ev_p (pc' := 82) (ls' := [some (.inr (.inr 50)), some (.inl x1), some (.inl r2), none, none]) (st' := [.inr (.inr 50), .inr (.inr 61)]) dX8_step_81 rfl ?_
          refine ev_getI (pc' := 85) dX8_step_82 rfl rfl rfl rfl ?_
          refine ev_load (pc' := 86) rfl dX8_step_85 rfl rfl k.1 rfl ?_
          have k := k.2
          refine ev_p (pc' := 87) (ls' := [some (.inr (.inr 50)), some (.inl x1), some (.inl r2), some (.inl (τ3 61 (τ3 50 18).toNatClampNeg)), none]) (st' := []) dX8_step_86 rfl ?_
          refine ev_p (pc' := 88) (ls' := [some (.inr (.inr 50)), some (.inl x1), some (.inl r2), some (.inl (τ3 61 (τ3 50 18).toNatClampNeg)), none]) (st' := [.inr (.inr 50)]) dX8_step_87 rfl ?_
          refine ev_getA (pc' := 91) (z := 61) dX8_step_88 rfl rfl rfl rfl ?_
          refine ev_p (pc' := 92) (ls' := [some (.inr (.inr 50)), some (.inl x1), some (.inl r2), some (.inl (τ3 61 (τ3 50 18).toNatClampNeg)), none]) (st' := [.inr (.inr 50), .inr (.inr 61)]) dX8_step_91 rfl ?_
          refine ev_getI (pc' := 95) dX8_step_92 rfl rfl rfl rfl ?_
          refine ev_cst (v := 1) (pc' := 96) dX8_step_95 (by decide) rfl ?_
          refine ev_p (pc' := 97) (ls' := [some (.inr (.inr 50)), some (.inl x1), some (.inl r2), some (.inl (τ3 61 (τ3 50 18).toNatClampNeg)), none]) (st' := [.inl ((τ3 50 18) + 1), .inr (.inr 61)]) dX8_step_96 rfl ?_
          refine ev_load (pc' := 98) rfl dX8_step_97 rfl rfl k.1 rfl ?_
          have k := k.2
          refine ev_p (pc' := 100) (ls' := [some (.inr (.inr 50)), some (.inl x1), some (.inl r2), some (.inl (τ3 61 (τ3 50 18).toNatClampNeg)), some (.inl (τ3 61 ((τ3 50 18) + 1).toNatClampNeg))]) (st' := []) dX8_step_98 rfl ?_
          refine ev_p (pc' := 101) (ls' := [some (.inr (.inr 50)), some (.inl x1), some (.inl r2), some (.inl (τ3 61 (τ3 50 18).toNatClampNeg)), some (.inl (τ3 61 ((τ3 50 18) + 1).toNatClampNeg))]) (st' := [.inr (.inr 50)]) dX8_step_100 rfl ?_
          refine ev_getA (pc' := 104) (z := 61) dX8_step_101 rfl rfl rfl rfl ?_
          refine ev_p (pc' := 105) (ls' := [some (.inr (.inr 50)), some (.inl x1), some (.inl r2), some (.inl (τ3 61 (τ3 50 18).toNatClampNeg)), some (.inl (τ3 61 ((τ3 50 18) + 1).toNatClampNeg))]) (st' := [.inr (.inr 50), .inr (.inr 61)]) dX8_step_104 rfl ?_
          refine ev_getI (pc' := 108) dX8_step_105 rfl rfl rfl rfl ?_
          refine ev_p (pc' := 109) (ls' := [some (.inr (.inr 50)), some (.inl x1), some (.inl r2), some (.inl (τ3 61 (τ3 50 18).toNatClampNeg)), some (.inl (τ3 61 ((τ3 50 18) + 1).toNatClampNeg))]) (st' := [.inl (τ3 61 (τ3 50 18).toNatClampNeg), .inl (τ3 50 18), .inr (.inr 61)]) dX8_step_108 rfl ?_
          refine ev_if_lt (tgt := 117) (pc' := 112) dX8_step_109 (by decide) rfl (fun h12 => ?_) (fun h12 => ?_)
          · have k := k.1 h12
            refine ev_cst (v := (-1)) (pc' := 118) dX8_step_117 (by decide) rfl ?_
            refine ev_go (tgt := 132) dX8_step_118 (by decide) ?_
            refine ev_stor (pc' := 133) (z := (-1)) rfl dX8_step_132 rfl rfl k.1 rfl rfl ?_
            have k := k.2
            obtain ⟨τ4, hτ4⟩ : ∃ z : ab_M, z = ab_upd τ3 61 (τ3 50 18).toNatClampNeg (-1) := ⟨_, rfl⟩
            rw [← hτ4]
            have k := k τ4 hτ4
            refine ev_go (tgt := 182) dX8_step_133 (by decide) ?_
            refine ev_p (pc' := 183) (ls' := [some (.inr (.inr 50)), some (.inl x1), some (.inl r2), some (.inl (τ3 61 (τ3 50 18).toNatClampNeg)), some (.inl (τ3 61 ((τ3 50 18) + 1).toNatClampNeg))]) (st' := [.inr (.inr 50)]) dX8_step_182 rfl ?_
            refine ev_p (pc' := 184) (ls' := [some (.inr (.inr 50)), some (.inl x1), some (.inl r2), some (.inl (τ3 61 (τ3 50 18).toNatClampNeg)), some (.inl (τ3 61 ((τ3 50 18) + 1).toNatClampNeg))]) (st' := [.inr (.inr 50), .inr (.inr 50)]) dX8_step_183 rfl ?_
            refine ev_getI (pc' := 187) dX8_step_184 rfl rfl rfl rfl ?_
            refine ev_cst (v := 1) (pc' := 188) dX8_step_187 (by decide) rfl ?_
            refine ev_p (pc' := 189) (ls' := [some (.inr (.inr 50)), some (.inl x1), some (.inl r2), some (.inl (τ3 61 (τ3 50 18).toNatClampNeg)), some (.inl (τ3 61 ((τ3 50 18) + 1).toNatClampNeg))]) (st' := [.inl ((τ4 50 18) + 1), .inr (.inr 50)]) dX8_step_188 rfl ?_
            refine ev_putI (pc' := 192) dX8_step_189 rfl rfl rfl rfl rfl rfl ?_
            obtain ⟨τ5, hτ5⟩ : ∃ z : ab_M, z = ab_upd τ4 50 18 ((τ4 50 18) + 1) := ⟨_, rfl⟩
            rw [← hτ5]
            have k := k τ5 hτ5
            exact ev_ret dX8_step_192 rfl k
          · have k := k.2 h12
            refine ev_p (pc' := 114) (ls' := [some (.inr (.inr 50)), some (.inl x1), some (.inl r2), some (.inl (τ3 61 (τ3 50 18).toNatClampNeg)), some (.inl (τ3 61 ((τ3 50 18) + 1).toNatClampNeg))]) (st' := [.inl (τ3 61 ((τ3 50 18) + 1).toNatClampNeg), .inl (τ3 50 18), .inr (.inr 61)]) dX8_step_112 rfl ?_
            refine ev_if_ge (tgt := 121) (pc' := 117) dX8_step_114 (by decide) rfl (fun h13 => ?_) (fun h13 => ?_)
            · have k := k.1 h13
              refine ev_p (pc' := 122) (ls' := [some (.inr (.inr 50)), some (.inl x1), some (.inl r2), some (.inl (τ3 61 (τ3 50 18).toNatClampNeg)), some (.inl (τ3 61 ((τ3 50 18) + 1).toNatClampNeg))]) (st' := [.inl (τ3 61 (τ3 50 18).toNatClampNeg), .inl (τ3 50 18), .inr (.inr 61)]) dX8_step_121 rfl ?_
              refine ev_p (pc' := 124) (ls' := [some (.inr (.inr 50)), some (.inl x1), some (.inl r2), some (.inl (τ3 61 (τ3 50 18).toNatClampNeg)), some (.inl (τ3 61 ((τ3 50 18) + 1).toNatClampNeg))]) (st' := [.inl (τ3 61 ((τ3 50 18) + 1).toNatClampNeg), .inl (τ3 61 (τ3 50 18).toNatClampNeg), .inl (τ3 50 18), .inr (.inr 61)]) dX8_step_122 rfl ?_
              refine ev_ic_ne (tgt := 131) (pc' := 127) dX8_step_124 (by decide) rfl (fun h14 => ?_) (fun h14 => ?_)
              · have k := k.2 h14
                refine ev_cst (v := 0) (pc' := 132) dX8_step_131 (by decide) rfl ?_
                refine ev_stor (pc' := 133) (z := 0) rfl dX8_step_132 rfl rfl k.1 rfl rfl ?_
                have k := k.2
                obtain ⟨τ4, hτ4⟩ : ∃ z : ab_M, z = ab_upd τ3 61 (τ3 50 18).toNatClampNeg 0 := ⟨_, rfl⟩
                rw [← hτ4]
                have k := k τ4 hτ4
                refine ev_go (tgt := 182) dX8_step_133 (by decide) ?_
                refine ev_p (pc' := 183) (ls' := [some (.inr (.inr 50)), some (.inl x1), some (.inl r2), some (.inl (τ3 61 (τ3 50 18).toNatClampNeg)), some (.inl (τ3 61 ((τ3 50 18) + 1).toNatClampNeg))]) (st' := [.inr (.inr 50)]) dX8_step_182 rfl ?_
                refine ev_p (pc' := 184) (ls' := [some (.inr (.inr 50)), some (.inl x1), some (.inl r2), some (.inl (τ3 61 (τ3 50 18).toNatClampNeg)), some (.inl (τ3 61 ((τ3 50 18) + 1).toNatClampNeg))]) (st' := [.inr (.inr 50), .inr (.inr 50)]) dX8_step_183 rfl ?_
                refine ev_getI (pc' := 187) dX8_step_184 rfl rfl rfl rfl ?_
                refine ev_cst (v := 1) (pc' := 188) dX8_step_187 (by decide) rfl ?_
                refine ev_p (pc' := 189) (ls' := [some (.inr (.inr 50)), some (.inl x1), some (.inl r2), some (.inl (τ3 61 (τ3 50 18).toNatClampNeg)), some (.inl (τ3 61 ((τ3 50 18) + 1).toNatClampNeg))]) (st' := [.inl ((τ4 50 18) + 1), .inr (.inr 50)]) dX8_step_188 rfl ?_
                refine ev_putI (pc' := 192) dX8_step_189 rfl rfl rfl rfl rfl rfl ?_
                obtain ⟨τ5, hτ5⟩ : ∃ z : ab_M, z = ab_upd τ4 50 18 ((τ4 50 18) + 1) := ⟨_, rfl⟩
                rw [← hτ5]
                have k := k τ5 hτ5
                exact ev_ret dX8_step_192 rfl k
              · have k := k.1 h14
                refine ev_cst (v := 1) (pc' := 128) dX8_step_127 (by decide) rfl ?_
                refine ev_go (tgt := 132) dX8_step_128 (by decide) ?_
                refine ev_stor (pc' := 133) (z := 1) rfl dX8_step_132 rfl rfl k.1 rfl rfl ?_
                have k := k.2
                obtain ⟨τ4, hτ4⟩ : ∃ z : ab_M, z = ab_upd τ3 61 (τ3 50 18).toNatClampNeg 1 := ⟨_, rfl⟩
                rw [← hτ4]
                have k := k τ4 hτ4
                refine ev_go (tgt := 182) dX8_step_133 (by decide) ?_
                refine ev_p (pc' := 183) (ls' := [some (.inr (.inr 50)), some (.inl x1), some (.inl r2), some (.inl (τ3 61 (τ3 50 18).toNatClampNeg)), some (.inl (τ3 61 ((τ3 50 18) + 1).toNatClampNeg))]) (st' := [.inr (.inr 50)]) dX8_step_182 rfl ?_
                refine ev_p (pc' := 184) (ls' := [some (.inr (.inr 50)), some (.inl x1), some (.inl r2), some (.inl (τ3 61 (τ3 50 18).toNatClampNeg)), some (.inl (τ3 61 ((τ3 50 18) + 1).toNatClampNeg))]) (st' := [.inr (.inr 50), .inr (.inr 50)]) dX8_step_183 rfl ?_
                refine ev_getI (pc' := 187) dX8_step_184 rfl rfl rfl rfl ?_
                refine ev_cst (v := 1) (pc' := 188) dX8_step_187 (by decide) rfl ?_
                refine ev_p (pc' := 189) (ls' := [some (.inr (.inr 50)), some (.inl x1), some (.inl r2), some (.inl (τ3 61 (τ3 50 18).toNatClampNeg)), some (.inl (τ3 61 ((τ3 50 18) + 1).toNatClampNeg))]) (st' := [.inl ((τ4 50 18) + 1), .inr (.inr 50)]) dX8_step_188 rfl ?_
                refine ev_putI (pc' := 192) dX8_step_189 rfl rfl rfl rfl rfl rfl ?_
                obtain ⟨τ5, hτ5⟩ : ∃ z : ab_M, z = ab_upd τ4 50 18 ((τ4 50 18) + 1) := ⟨_, rfl⟩
                rw [← hτ5]
                have k := k τ5 hτ5
                exact ev_ret dX8_step_192 rfl k
            · have k := k.2 h13
              refine ev_cst (v := (-1)) (pc' := 118) dX8_step_117 (by decide) rfl ?_
              refine ev_go (tgt := 132) dX8_step_118 (by decide) ?_
              refine ev_stor (pc' := 133) (z := (-1)) rfl dX8_step_132 rfl rfl k.1 rfl rfl ?_
              have k := k.2
              obtain ⟨τ4, hτ4⟩ : ∃ z : ab_M, z = ab_upd τ3 61 (τ3 50 18).toNatClampNeg (-1) := ⟨_, rfl⟩
              rw [← hτ4]
              have k := k τ4 hτ4
              refine ev_go (tgt := 182) dX8_step_133 (by decide) ?_
              refine ev_p (pc' := 183) (ls' := [some (.inr (.inr 50)), some (.inl x1), some (.inl r2), some (.inl (τ3 61 (τ3 50 18).toNatClampNeg)), some (.inl (τ3 61 ((τ3 50 18) + 1).toNatClampNeg))]) (st' := [.inr (.inr 50)]) dX8_step_182 rfl ?_
              refine ev_p (pc' := 184) (ls' := [some (.inr (.inr 50)), some (.inl x1), some (.inl r2), some (.inl (τ3 61 (τ3 50 18).toNatClampNeg)), some (.inl (τ3 61 ((τ3 50 18) + 1).toNatClampNeg))]) (st' := [.inr (.inr 50), .inr (.inr 50)]) dX8_step_183 rfl ?_
              refine ev_getI (pc' := 187) dX8_step_184 rfl rfl rfl rfl ?_
              refine ev_cst (v := 1) (pc' := 188) dX8_step_187 (by decide) rfl ?_
              refine ev_p (pc' := 189) (ls' := [some (.inr (.inr 50)), some (.inl x1), some (.inl r2), some (.inl (τ3 61 (τ3 50 18).toNatClampNeg)), some (.inl (τ3 61 ((τ3 50 18) + 1).toNatClampNeg))]) (st' := [.inl ((τ4 50 18) + 1), .inr (.inr 50)]) dX8_step_188 rfl ?_
              refine ev_putI (pc' := 192) dX8_step_189 rfl rfl rfl rfl rfl rfl ?_
              obtain ⟨τ5, hτ5⟩ : ∃ z : ab_M, z = ab_upd τ4 50 18 ((τ4 50 18) + 1) := ⟨_, rfl⟩
              rw [← hτ5]
              have k := k τ5 hτ5
              exact ev_ret dX8_step_192 rfl k
      · have k := k.2 h9
        refine ev_p (pc' := 43) (ls' := [some (.inr (.inr 50)), some (.inl x1), some (.inl r2), none, none]) (st' := [.inr (.inr 50)]) dX8_step_42 rfl ?_
        refine ev_p (pc' := 44) (ls' := [some (.inr (.inr 50)), some (.inl x1), some (.inl r2), none, none]) (st' := [.inl r2, .inr (.inr 50)]) dX8_step_43 rfl ?_
        refine ev_call (y := 102) (as := [.inr (.inr 50), .inl r2]) (r := []) (M' := mX8_cell) (pc' := 47) dX8_step_44 rfl rfl ⟨rfl, rfl⟩ rfl k rfl (fun v τ3 hq => ?_)
        obtain ⟨r4, hv, k⟩ := hq
        rw [hv]
        change ev mX8_step 47 [some (.inr (.inr 50)), some (.inl x1), some (.inl r2), none, none] [.inl r4] τ3 _
        refine ev_p (pc' := 48) (ls' := [some (.inr (.inr 50)), some (.inl x1), some (.inl r2), some (.inl r4), none]) (st' := []) dX8_step_47 rfl ?_
        refine ev_p (pc' := 49) (ls' := [some (.inr (.inr 50)), some (.inl x1), some (.inl r2), some (.inl r4), none]) (st' := [.inr (.inr 50)]) dX8_step_48 rfl ?_
        refine ev_getA (pc' := 52) (z := 61) dX8_step_49 rfl rfl rfl rfl ?_
        refine ev_p (pc' := 53) (ls' := [some (.inr (.inr 50)), some (.inl x1), some (.inl r2), some (.inl r4), none]) (st' := [.inr (.inr 50), .inr (.inr 61)]) dX8_step_52 rfl ?_
        refine ev_getI (pc' := 56) dX8_step_53 rfl rfl rfl rfl ?_
        refine ev_p (pc' := 57) (ls' := [some (.inr (.inr 50)), some (.inl x1), some (.inl r2), some (.inl r4), none]) (st' := [.inl r4, .inl (τ3 50 18), .inr (.inr 61)]) dX8_step_56 rfl ?_
        refine ev_stor (pc' := 58) (z := r4) rfl dX8_step_57 rfl rfl k.1 rfl rfl ?_
        have k := k.2
        obtain ⟨τ5, hτ5⟩ : ∃ z : ab_M, z = ab_upd τ3 61 (τ3 50 18).toNatClampNeg r4 := ⟨_, rfl⟩
        rw [← hτ5]
        have k := k τ5 hτ5
        refine ev_go (tgt := 182) dX8_step_58 (by decide) ?_
        refine ev_p (pc' := 183) (ls' := [some (.inr (.inr 50)), some (.inl x1), some (.inl r2), some (.inl r4), none]) (st' := [.inr (.inr 50)]) dX8_step_182 rfl ?_
        refine ev_p (pc' := 184) (ls' := [some (.inr (.inr 50)), some (.inl x1), some (.inl r2), some (.inl r4), none]) (st' := [.inr (.inr 50), .inr (.inr 50)]) dX8_step_183 rfl ?_
        refine ev_getI (pc' := 187) dX8_step_184 rfl rfl rfl rfl ?_
        refine ev_cst (v := 1) (pc' := 188) dX8_step_187 (by decide) rfl ?_
        refine ev_p (pc' := 189) (ls' := [some (.inr (.inr 50)), some (.inl x1), some (.inl r2), some (.inl r4), none]) (st' := [.inl ((τ5 50 18) + 1), .inr (.inr 50)]) dX8_step_188 rfl ?_
        refine ev_putI (pc' := 192) dX8_step_189 rfl rfl rfl rfl rfl rfl ?_
        obtain ⟨τ6, hτ6⟩ : ∃ z : ab_M, z = ab_upd τ5 50 18 ((τ5 50 18) + 1) := ⟨_, rfl⟩
        rw [← hτ6]
        have k := k τ6 hτ6
        exact ev_ret dX8_step_192 rfl k
    · have k := k.2 h8
      refine ev_p (pc' := 18) (ls' := [some (.inr (.inr 50)), some (.inl x1), some (.inl r2), none, none]) (st' := [.inr (.inr 50)]) dX8_step_17 rfl ?_
      refine ev_getA (pc' := 21) (z := 61) dX8_step_18 rfl rfl rfl rfl ?_
      refine ev_p (pc' := 22) (ls' := [some (.inr (.inr 50)), some (.inl x1), some (.inl r2), none, none]) (st' := [.inr (.inr 50), .inr (.inr 61)]) dX8_step_21 rfl ?_
      refine ev_getI (pc' := 25) dX8_step_22 rfl rfl rfl rfl ?_
      refine ev_p (pc' := 26) (ls' := [some (.inr (.inr 50)), some (.inl x1), some (.inl r2), none, none]) (st' := [.inr (.inr 50), .inl (τ1 50 18), .inr (.inr 61)]) dX8_step_25 rfl ?_
      refine ev_getA (pc' := 29) (z := 59) dX8_step_26 rfl rfl rfl rfl ?_
      refine ev_p (pc' := 30) (ls' := [some (.inr (.inr 50)), some (.inl x1), some (.inl r2), none, none]) (st' := [.inl x1, .inr (.inr 59), .inl (τ1 50 18), .inr (.inr 61)]) dX8_step_29 rfl ?_
      refine ev_cst (v := 120) (pc' := 32) dX8_step_30 (by decide) rfl ?_
      refine ev_p (pc' := 33) (ls' := [some (.inr (.inr 50)), some (.inl x1), some (.inl r2), none, none]) (st' := [.inl (x1 - 120), .inr (.inr 59), .inl (τ1 50 18), .inr (.inr 61)]) dX8_step_32 rfl ?_
      refine ev_load (pc' := 34) rfl dX8_step_33 rfl rfl k.1 rfl ?_
      have k := k.2
      refine ev_stor (pc' := 35) (z := (τ1 59 (x1 - 120).toNatClampNeg)) rfl dX8_step_34 rfl rfl k.1 rfl rfl ?_
      have k := k.2
      obtain ⟨τ3, hτ3⟩ : ∃ z : ab_M, z = ab_upd τ1 61 (τ1 50 18).toNatClampNeg (τ1 59 (x1 - 120).toNatClampNeg) := ⟨_, rfl⟩
      rw [← hτ3]
      have k := k τ3 hτ3
      refine ev_go (tgt := 182) dX8_step_35 (by decide) ?_
      refine ev_p (pc' := 183) (ls' := [some (.inr (.inr 50)), some (.inl x1), some (.inl r2), none, none]) (st' := [.inr (.inr 50)]) dX8_step_182 rfl ?_
      refine ev_p (pc' := 184) (ls' := [some (.inr (.inr 50)), some (.inl x1), some (.inl r2), none, none]) (st' := [.inr (.inr 50), .inr (.inr 50)]) dX8_step_183 rfl ?_
      refine ev_getI (pc' := 187) dX8_step_184 rfl rfl rfl rfl ?_
      refine ev_cst (v := 1) (pc' := 188) dX8_step_187 (by decide) rfl ?_
      refine ev_p (pc' := 189) (ls' := [some (.inr (.inr 50)), some (.inl x1), some (.inl r2), none, none]) (st' := [.inl ((τ3 50 18) + 1), .inr (.inr 50)]) dX8_step_188 rfl ?_
      refine ev_putI (pc' := 192) dX8_step_189 rfl rfl rfl rfl rfl rfl ?_
      obtain ⟨τ4, hτ4⟩ : ∃ z : ab_M, z = ab_upd τ3 50 18 ((τ3 50 18) + 1) := ⟨_, rfl⟩
      rw [← hτ4]
      have k := k τ4 hτ4
      exact ev_ret dX8_step_192 rfl k
set_option maxRecDepth 20000 in
theorem s_n_X8_cell_0 {σ : ab_M} {Q : Option ab_V → ab_M → Prop} {x1 : Int32}
    (k : ev mX8_cell 10 [some (.inr (.inr 50)), some (.inl x1), some (.inl (16 * x1)), some (.inl 1), some (.inl 0)] [] σ Q) :
    ev mX8_cell 0 [some (.inr (.inr 50)), some (.inl x1), none, none, none] [] σ Q := by
  refine ev_cst (v := 16) (pc' := 2) dX8_cell_0 (by decide) rfl ?_
  refine ev_p (pc' := 3) (ls' := [some (.inr (.inr 50)), some (.inl x1), none, none, none]) (st' := [.inl x1, .inl 16]) dX8_cell_2 rfl ?_
  refine ev_p (pc' := 4) (ls' := [some (.inr (.inr 50)), some (.inl x1), none, none, none]) (st' := [.inl (16 * x1)]) dX8_cell_3 rfl ?_
  refine ev_p (pc' := 5) (ls' := [some (.inr (.inr 50)), some (.inl x1), some (.inl (16 * x1)), none, none]) (st' := []) dX8_cell_4 rfl ?_
  refine ev_cst (v := 1) (pc' := 6) dX8_cell_5 (by decide) rfl ?_
  refine ev_p (pc' := 7) (ls' := [some (.inr (.inr 50)), some (.inl x1), some (.inl (16 * x1)), some (.inl 1), none]) (st' := []) dX8_cell_6 rfl ?_
  refine ev_cst (v := 0) (pc' := 8) dX8_cell_7 (by decide) rfl ?_
  refine ev_p (pc' := 10) (ls' := [some (.inr (.inr 50)), some (.inl x1), some (.inl (16 * x1)), some (.inl 1), some (.inl 0)]) (st' := []) dX8_cell_8 rfl ?_
  exact k
set_option maxRecDepth 20000 in
theorem s_n_X8_cell_10 {σ : ab_M} {Q : Option ab_V → ab_M → Prop} {x1 : Int32} {x2 : Int32} {x3 : Int32} {x4 : Int32}
    (k : ab_in x1 8 = true ∧ (((σ 51 x1.toNatClampNeg) ≤ x4 → ((x3 = 0 → Q (some (.inl (-1))) σ) ∧ (¬ x3 = 0 → ab_in x2 128 = true ∧ Q (some (.inl (σ 55 x2.toNatClampNeg))) σ))) ∧ (¬ (σ 51 x1.toNatClampNeg) ≤ x4 → (∀ τ1 : ab_M, τ1 = ab_upd σ 50 18 ((σ 50 18) - 1) → ((x3 = 0 → ev mX8_cell 10 [some (.inr (.inr 50)), some (.inl x1), some (.inl (x2 + 0)), some (.inl 0), some (.inl (x4 + 1))] [] τ1 Q) ∧ (¬ x3 = 0 → ab_in (τ1 50 18) 61 = true ∧ (((τ1 61 (τ1 50 18).toNatClampNeg) < 0 → ev mX8_cell 10 [some (.inr (.inr 50)), some (.inl x1), some (.inl (x2 + 0)), some (.inl 0), some (.inl (x4 + 1))] [] τ1 Q) ∧ (¬ (τ1 61 (τ1 50 18).toNatClampNeg) < 0 → ab_in (τ1 50 18) 61 = true ∧ ab_in x1 8 = true ∧ (((τ1 51 x1.toNatClampNeg) = 2 → ((x4 = 0 → ev mX8_cell 10 [some (.inr (.inr 50)), some (.inl x1), some (.inl (x2 + ((τ1 61 (τ1 50 18).toNatClampNeg) * 4))), some (.inl 1), some (.inl (x4 + 1))] [] τ1 Q) ∧ (¬ x4 = 0 → ab_in x1 8 = true ∧ (((τ1 51 x1.toNatClampNeg) = 1 → ev mX8_cell 10 [some (.inr (.inr 50)), some (.inl x1), some (.inl (x2 + ((τ1 61 (τ1 50 18).toNatClampNeg) * 4))), some (.inl 1), some (.inl (x4 + 1))] [] τ1 Q) ∧ (¬ (τ1 51 x1.toNatClampNeg) = 1 → ev mX8_cell 10 [some (.inr (.inr 50)), some (.inl x1), some (.inl (x2 + ((τ1 61 (τ1 50 18).toNatClampNeg) * 1))), some (.inl 1), some (.inl (x4 + 1))] [] τ1 Q))))) ∧ (¬ (τ1 51 x1.toNatClampNeg) = 2 → ab_in x1 8 = true ∧ (((τ1 51 x1.toNatClampNeg) = 1 → ev mX8_cell 10 [some (.inr (.inr 50)), some (.inl x1), some (.inl (x2 + ((τ1 61 (τ1 50 18).toNatClampNeg) * 4))), some (.inl 1), some (.inl (x4 + 1))] [] τ1 Q) ∧ (¬ (τ1 51 x1.toNatClampNeg) = 1 → ev mX8_cell 10 [some (.inr (.inr 50)), some (.inl x1), some (.inl (x2 + ((τ1 61 (τ1 50 18).toNatClampNeg) * 1))), some (.inl 1), some (.inl (x4 + 1))] [] τ1 Q)))))))))))) :
    ev mX8_cell 10 [some (.inr (.inr 50)), some (.inl x1), some (.inl x2), some (.inl x3), some (.inl x4)] [] σ Q := by
  refine ev_p (pc' := 12) (ls' := [some (.inr (.inr 50)), some (.inl x1), some (.inl x2), some (.inl x3), some (.inl x4)]) (st' := [.inl x4]) dX8_cell_10 rfl ?_
  refine ev_p (pc' := 13) (ls' := [some (.inr (.inr 50)), some (.inl x1), some (.inl x2), some (.inl x3), some (.inl x4)]) (st' := [.inr (.inr 50), .inl x4]) dX8_cell_12 rfl ?_
  refine ev_getA (pc' := 16) (z := 51) dX8_cell_13 rfl rfl rfl rfl ?_
  refine ev_p (pc' := 17) (ls' := [some (.inr (.inr 50)), some (.inl x1), some (.inl x2), some (.inl x3), some (.inl x4)]) (st' := [.inl x1, .inr (.inr 51), .inl x4]) dX8_cell_16 rfl ?_
  refine ev_load (pc' := 18) rfl dX8_cell_17 rfl rfl k.1 rfl ?_
  have k := k.2
  refine ev_ic_ge (tgt := 114) (pc' := 21) dX8_cell_18 (by decide) rfl (fun h1 => ?_) (fun h1 => ?_)
  · have k := k.1 h1
    refine ev_p (pc' := 115) (ls' := [some (.inr (.inr 50)), some (.inl x1), some (.inl x2), some (.inl x3), some (.inl x4)]) (st' := [.inl x3]) dX8_cell_114 rfl ?_
    refine ev_if_eq (tgt := 127) (pc' := 118) dX8_cell_115 (by decide) rfl (fun h2 => ?_) (fun h2 => ?_)
    · have k := k.1 h2
      refine ev_cst (v := (-1)) (pc' := 128) dX8_cell_127 (by decide) rfl ?_
      exact ev_ret dX8_cell_128 rfl k
    · have k := k.2 h2
      refine ev_p (pc' := 119) (ls' := [some (.inr (.inr 50)), some (.inl x1), some (.inl x2), some (.inl x3), some (.inl x4)]) (st' := [.inr (.inr 50)]) dX8_cell_118 rfl ?_
      refine ev_getA (pc' := 122) (z := 55) dX8_cell_119 rfl rfl rfl rfl ?_
      refine ev_p (pc' := 123) (ls' := [some (.inr (.inr 50)), some (.inl x1), some (.inl x2), some (.inl x3), some (.inl x4)]) (st' := [.inl x2, .inr (.inr 55)]) dX8_cell_122 rfl ?_
      refine ev_load (pc' := 124) rfl dX8_cell_123 rfl rfl k.1 rfl ?_
      have k := k.2
      refine ev_go (tgt := 128) dX8_cell_124 (by decide) ?_
      exact ev_ret dX8_cell_128 rfl k
  · have k := k.2 h1
    refine ev_p (pc' := 22) (ls' := [some (.inr (.inr 50)), some (.inl x1), some (.inl x2), some (.inl x3), some (.inl x4)]) (st' := [.inr (.inr 50)]) dX8_cell_21 rfl ?_
    refine ev_p (pc' := 23) (ls' := [some (.inr (.inr 50)), some (.inl x1), some (.inl x2), some (.inl x3), some (.inl x4)]) (st' := [.inr (.inr 50), .inr (.inr 50)]) dX8_cell_22 rfl ?_
    refine ev_getI (pc' := 26) dX8_cell_23 rfl rfl rfl rfl ?_
    refine ev_cst (v := 1) (pc' := 27) dX8_cell_26 (by decide) rfl ?_
    refine ev_p (pc' := 28) (ls' := [some (.inr (.inr 50)), some (.inl x1), some (.inl x2), some (.inl x3), some (.inl x4)]) (st' := [.inl ((σ 50 18) - 1), .inr (.inr 50)]) dX8_cell_27 rfl ?_
    refine ev_putI (pc' := 31) dX8_cell_28 rfl rfl rfl rfl rfl rfl ?_
    obtain ⟨τ1, hτ1⟩ : ∃ z : ab_M, z = ab_upd σ 50 18 ((σ 50 18) - 1) := ⟨_, rfl⟩
    rw [← hτ1]
    have k := k τ1 hτ1
    refine ev_p (pc' := 32) (ls' := [some (.inr (.inr 50)), some (.inl x1), some (.inl x2), some (.inl x3), some (.inl x4)]) (st' := [.inl x3]) dX8_cell_31 rfl ?_
    refine ev_if_eq (tgt := 51) (pc' := 35) dX8_cell_32 (by decide) rfl (fun h3 => ?_) (fun h3 => ?_)
    · have k := k.1 h3
      refine ev_cst (v := 0) (pc' := 52) dX8_cell_51 (by decide) rfl ?_
      refine ev_p (pc' := 53) (ls' := [some (.inr (.inr 50)), some (.inl x1), some (.inl x2), some (.inl 0), some (.inl x4)]) (st' := []) dX8_cell_52 rfl ?_
      refine ev_p (pc' := 54) (ls' := [some (.inr (.inr 50)), some (.inl x1), some (.inl x2), some (.inl 0), some (.inl x4)]) (st' := [.inl x2]) dX8_cell_53 rfl ?_
      refine ev_p (pc' := 55) (ls' := [some (.inr (.inr 50)), some (.inl x1), some (.inl x2), some (.inl 0), some (.inl x4)]) (st' := [.inl 0, .inl x2]) dX8_cell_54 rfl ?_
      refine ev_if_eq (tgt := 105) (pc' := 58) dX8_cell_55 (by decide) rfl (fun _ => ?_) (fun h => absurd h (by decide))
      refine ev_cst (v := 0) (pc' := 106) dX8_cell_105 (by decide) rfl ?_
      refine ev_p (pc' := 107) (ls' := [some (.inr (.inr 50)), some (.inl x1), some (.inl x2), some (.inl 0), some (.inl x4)]) (st' := [.inl (x2 + 0)]) dX8_cell_106 rfl ?_
      refine ev_p (pc' := 108) (ls' := [some (.inr (.inr 50)), some (.inl x1), some (.inl (x2 + 0)), some (.inl 0), some (.inl x4)]) (st' := []) dX8_cell_107 rfl ?_
      refine ev_p (pc' := 111) (ls' := [some (.inr (.inr 50)), some (.inl x1), some (.inl (x2 + 0)), some (.inl 0), some (.inl (x4 + 1))]) (st' := []) dX8_cell_108 rfl ?_
      refine ev_go (tgt := 10) dX8_cell_111 (by decide) ?_
      exact k
    · have k := k.2 h3
      refine ev_p (pc' := 36) (ls' := [some (.inr (.inr 50)), some (.inl x1), some (.inl x2), some (.inl x3), some (.inl x4)]) (st' := [.inr (.inr 50)]) dX8_cell_35 rfl ?_
      refine ev_getA (pc' := 39) (z := 61) dX8_cell_36 rfl rfl rfl rfl ?_
      refine ev_p (pc' := 40) (ls' := [some (.inr (.inr 50)), some (.inl x1), some (.inl x2), some (.inl x3), some (.inl x4)]) (st' := [.inr (.inr 50), .inr (.inr 61)]) dX8_cell_39 rfl ?_
      refine ev_getI (pc' := 43) dX8_cell_40 rfl rfl rfl rfl ?_
      refine ev_load (pc' := 44) rfl dX8_cell_43 rfl rfl k.1 rfl ?_
      have k := k.2
      refine ev_if_lt (tgt := 51) (pc' := 47) dX8_cell_44 (by decide) rfl (fun h4 => ?_) (fun h4 => ?_)
      · have k := k.1 h4
        refine ev_cst (v := 0) (pc' := 52) dX8_cell_51 (by decide) rfl ?_
        refine ev_p (pc' := 53) (ls' := [some (.inr (.inr 50)), some (.inl x1), some (.inl x2), some (.inl 0), some (.inl x4)]) (st' := []) dX8_cell_52 rfl ?_
        refine ev_p (pc' := 54) (ls' := [some (.inr (.inr 50)), some (.inl x1), some (.inl x2), some (.inl 0), some (.inl x4)]) (st' := [.inl x2]) dX8_cell_53 rfl ?_
        refine ev_p (pc' := 55) (ls' := [some (.inr (.inr 50)), some (.inl x1), some (.inl x2), some (.inl 0), some (.inl x4)]) (st' := [.inl 0, .inl x2]) dX8_cell_54 rfl ?_
        refine ev_if_eq (tgt := 105) (pc' := 58) dX8_cell_55 (by decide) rfl (fun _ => ?_) (fun h => absurd h (by decide))
        refine ev_cst (v := 0) (pc' := 106) dX8_cell_105 (by decide) rfl ?_
        refine ev_p (pc' := 107) (ls' := [some (.inr (.inr 50)), some (.inl x1), some (.inl x2), some (.inl 0), some (.inl x4)]) (st' := [.inl (x2 + 0)]) dX8_cell_106 rfl ?_
        refine ev_p (pc' := 108) (ls' := [some (.inr (.inr 50)), some (.inl x1), some (.inl (x2 + 0)), some (.inl 0), some (.inl x4)]) (st' := []) dX8_cell_107 rfl ?_
        refine ev_p (pc' := 111) (ls' := [some (.inr (.inr 50)), some (.inl x1), some (.inl (x2 + 0)), some (.inl 0), some (.inl (x4 + 1))]) (st' := []) dX8_cell_108 rfl ?_
        refine ev_go (tgt := 10) dX8_cell_111 (by decide) ?_
        exact k
      · have k := k.2 h4
        refine ev_cst (v := 1) (pc' := 48) dX8_cell_47 (by decide) rfl ?_
        refine ev_go (tgt := 52) dX8_cell_48 (by decide) ?_
        refine ev_p (pc' := 53) (ls' := [some (.inr (.inr 50)), some (.inl x1), some (.inl x2), some (.inl 1), some (.inl x4)]) (st' := []) dX8_cell_52 rfl ?_
        refine ev_p (pc' := 54) (ls' := [some (.inr (.inr 50)), some (.inl x1), some (.inl x2), some (.inl 1), some (.inl x4)]) (st' := [.inl x2]) dX8_cell_53 rfl ?_
        refine ev_p (pc' := 55) (ls' := [some (.inr (.inr 50)), some (.inl x1), some (.inl x2), some (.inl 1), some (.inl x4)]) (st' := [.inl 1, .inl x2]) dX8_cell_54 rfl ?_
        refine ev_if_eq (tgt := 105) (pc' := 58) dX8_cell_55 (by decide) rfl (fun h => absurd h (by decide)) (fun _ => ?_)
        refine ev_p (pc' := 59) (ls' := [some (.inr (.inr 50)), some (.inl x1), some (.inl x2), some (.inl 1), some (.inl x4)]) (st' := [.inr (.inr 50), .inl x2]) dX8_cell_58 rfl ?_
        refine ev_getA (pc' := 62) (z := 61) dX8_cell_59 rfl rfl rfl rfl ?_
        refine ev_p (pc' := 63) (ls' := [some (.inr (.inr 50)), some (.inl x1), some (.inl x2), some (.inl 1), some (.inl x4)]) (st' := [.inr (.inr 50), .inr (.inr 61), .inl x2]) dX8_cell_62 rfl ?_
        refine ev_getI (pc' := 66) dX8_cell_63 rfl rfl rfl rfl ?_
        refine ev_load (pc' := 67) rfl dX8_cell_66 rfl rfl k.1 rfl ?_
        have k := k.2
        refine ev_p (pc' := 68) (ls' := [some (.inr (.inr 50)), some (.inl x1), some (.inl x2), some (.inl 1), some (.inl x4)]) (st' := [.inr (.inr 50), .inl (τ1 61 (τ1 50 18).toNatClampNeg), .inl x2]) dX8_cell_67 rfl ?_
        refine ev_getA (pc' := 71) (z := 51) dX8_cell_68 rfl rfl rfl rfl ?_
        refine ev_p (pc' := 72) (ls' := [some (.inr (.inr 50)), some (.inl x1), some (.inl x2), some (.inl 1), some (.inl x4)]) (st' := [.inl x1, .inr (.inr 51), .inl (τ1 61 (τ1 50 18).toNatClampNeg), .inl x2]) dX8_cell_71 rfl ?_
        refine ev_load (pc' := 73) rfl dX8_cell_72 rfl rfl k.1 rfl ?_
        have k := k.2
        refine ev_cst (v := 2) (pc' := 74) dX8_cell_73 (by decide) rfl ?_
        refine ev_ic_ne (tgt := 86) (pc' := 77) dX8_cell_74 (by decide) rfl (fun h5 => ?_) (fun h5 => ?_)
        · have k := k.2 h5
          refine ev_p (pc' := 87) (ls' := [some (.inr (.inr 50)), some (.inl x1), some (.inl x2), some (.inl 1), some (.inl x4)]) (st' := [.inr (.inr 50), .inl (τ1 61 (τ1 50 18).toNatClampNeg), .inl x2]) dX8_cell_86 rfl ?_
          refine ev_getA (pc' := 90) (z := 51) dX8_cell_87 rfl rfl rfl rfl ?_
          refine ev_p (pc' := 91) (ls' := [some (.inr (.inr 50)), some (.inl x1), some (.inl x2), some (.inl 1), some (.inl x4)]) (st' := [.inl x1, .inr (.inr 51), .inl (τ1 61 (τ1 50 18).toNatClampNeg), .inl x2]) dX8_cell_90 rfl ?_
          refine ev_load (pc' := 92) rfl dX8_cell_91 rfl rfl k.1 rfl ?_
          have k := k.2
          refine ev_cst (v := 1) (pc' := 93) dX8_cell_92 (by decide) rfl ?_
          refine ev_ic_ne (tgt := 100) (pc' := 96) dX8_cell_93 (by decide) rfl (fun h6 => ?_) (fun h6 => ?_)
          · have k := k.2 h6
            refine ev_cst (v := 1) (pc' := 101) dX8_cell_100 (by decide) rfl ?_
            refine ev_p (pc' := 102) (ls' := [some (.inr (.inr 50)), some (.inl x1), some (.inl x2), some (.inl 1), some (.inl x4)]) (st' := [.inl ((τ1 61 (τ1 50 18).toNatClampNeg) * 1), .inl x2]) dX8_cell_101 rfl ?_
            refine ev_go (tgt := 106) dX8_cell_102 (by decide) ?_
            refine ev_p (pc' := 107) (ls' := [some (.inr (.inr 50)), some (.inl x1), some (.inl x2), some (.inl 1), some (.inl x4)]) (st' := [.inl (x2 + ((τ1 61 (τ1 50 18).toNatClampNeg) * 1))]) dX8_cell_106 rfl ?_
            refine ev_p (pc' := 108) (ls' := [some (.inr (.inr 50)), some (.inl x1), some (.inl (x2 + ((τ1 61 (τ1 50 18).toNatClampNeg) * 1))), some (.inl 1), some (.inl x4)]) (st' := []) dX8_cell_107 rfl ?_
            refine ev_p (pc' := 111) (ls' := [some (.inr (.inr 50)), some (.inl x1), some (.inl (x2 + ((τ1 61 (τ1 50 18).toNatClampNeg) * 1))), some (.inl 1), some (.inl (x4 + 1))]) (st' := []) dX8_cell_108 rfl ?_
            refine ev_go (tgt := 10) dX8_cell_111 (by decide) ?_
            exact k
          · have k := k.1 h6
            refine ev_cst (v := 4) (pc' := 97) dX8_cell_96 (by decide) rfl ?_
            refine ev_go (tgt := 101) dX8_cell_97 (by decide) ?_
            refine ev_p (pc' := 102) (ls' := [some (.inr (.inr 50)), some (.inl x1), some (.inl x2), some (.inl 1), some (.inl x4)]) (st' := [.inl ((τ1 61 (τ1 50 18).toNatClampNeg) * 4), .inl x2]) dX8_cell_101 rfl ?_
            refine ev_go (tgt := 106) dX8_cell_102 (by decide) ?_
            refine ev_p (pc' := 107) (ls' := [some (.inr (.inr 50)), some (.inl x1), some (.inl x2), some (.inl 1), some (.inl x4)]) (st' := [.inl (x2 + ((τ1 61 (τ1 50 18).toNatClampNeg) * 4))]) dX8_cell_106 rfl ?_
            refine ev_p (pc' := 108) (ls' := [some (.inr (.inr 50)), some (.inl x1), some (.inl (x2 + ((τ1 61 (τ1 50 18).toNatClampNeg) * 4))), some (.inl 1), some (.inl x4)]) (st' := []) dX8_cell_107 rfl ?_
            refine ev_p (pc' := 111) (ls' := [some (.inr (.inr 50)), some (.inl x1), some (.inl (x2 + ((τ1 61 (τ1 50 18).toNatClampNeg) * 4))), some (.inl 1), some (.inl (x4 + 1))]) (st' := []) dX8_cell_108 rfl ?_
            refine ev_go (tgt := 10) dX8_cell_111 (by decide) ?_
            exact k
        · have k := k.1 h5
          refine ev_p (pc' := 79) (ls' := [some (.inr (.inr 50)), some (.inl x1), some (.inl x2), some (.inl 1), some (.inl x4)]) (st' := [.inl x4, .inl (τ1 61 (τ1 50 18).toNatClampNeg), .inl x2]) dX8_cell_77 rfl ?_
          refine ev_if_ne (tgt := 86) (pc' := 82) dX8_cell_79 (by decide) rfl (fun h7 => ?_) (fun h7 => ?_)
          · have k := k.2 h7
            refine ev_p (pc' := 87) (ls' := [some (.inr (.inr 50)), some (.inl x1), some (.inl x2), some (.inl 1), some (.inl x4)]) (st' := [.inr (.inr 50), .inl (τ1 61 (τ1 50 18).toNatClampNeg), .inl x2]) dX8_cell_86 rfl ?_
            refine ev_getA (pc' := 90) (z := 51) dX8_cell_87 rfl rfl rfl rfl ?_
            refine ev_p (pc' := 91) (ls' := [some (.inr (.inr 50)), some (.inl x1), some (.inl x2), some (.inl 1), some (.inl x4)]) (st' := [.inl x1, .inr (.inr 51), .inl (τ1 61 (τ1 50 18).toNatClampNeg), .inl x2]) dX8_cell_90 rfl ?_
            refine ev_load (pc' := 92) rfl dX8_cell_91 rfl rfl k.1 rfl ?_
            have k := k.2
            refine ev_cst (v := 1) (pc' := 93) dX8_cell_92 (by decide) rfl ?_
            refine ev_ic_ne (tgt := 100) (pc' := 96) dX8_cell_93 (by decide) rfl (fun h8 => ?_) (fun h8 => ?_)
            · have k := k.2 h8
              refine ev_cst (v := 1) (pc' := 101) dX8_cell_100 (by decide) rfl ?_
              refine ev_p (pc' := 102) (ls' := [some (.inr (.inr 50)), some (.inl x1), some (.inl x2), some (.inl 1), some (.inl x4)]) (st' := [.inl ((τ1 61 (τ1 50 18).toNatClampNeg) * 1), .inl x2]) dX8_cell_101 rfl ?_
              refine ev_go (tgt := 106) dX8_cell_102 (by decide) ?_
              refine ev_p (pc' := 107) (ls' := [some (.inr (.inr 50)), some (.inl x1), some (.inl x2), some (.inl 1), some (.inl x4)]) (st' := [.inl (x2 + ((τ1 61 (τ1 50 18).toNatClampNeg) * 1))]) dX8_cell_106 rfl ?_
              refine ev_p (pc' := 108) (ls' := [some (.inr (.inr 50)), some (.inl x1), some (.inl (x2 + ((τ1 61 (τ1 50 18).toNatClampNeg) * 1))), some (.inl 1), some (.inl x4)]) (st' := []) dX8_cell_107 rfl ?_
              refine ev_p (pc' := 111) (ls' := [some (.inr (.inr 50)), some (.inl x1), some (.inl (x2 + ((τ1 61 (τ1 50 18).toNatClampNeg) * 1))), some (.inl 1), some (.inl (x4 + 1))]) (st' := []) dX8_cell_108 rfl ?_
              refine ev_go (tgt := 10) dX8_cell_111 (by decide) ?_
              exact k
            · have k := k.1 h8
              refine ev_cst (v := 4) (pc' := 97) dX8_cell_96 (by decide) rfl ?_
              refine ev_go (tgt := 101) dX8_cell_97 (by decide) ?_
              refine ev_p (pc' := 102) (ls' := [some (.inr (.inr 50)), some (.inl x1), some (.inl x2), some (.inl 1), some (.inl x4)]) (st' := [.inl ((τ1 61 (τ1 50 18).toNatClampNeg) * 4), .inl x2]) dX8_cell_101 rfl ?_
              refine ev_go (tgt := 106) dX8_cell_102 (by decide) ?_
              refine ev_p (pc' := 107) (ls' := [some (.inr (.inr 50)), some (.inl x1), some (.inl x2), some (.inl 1), some (.inl x4)]) (st' := [.inl (x2 + ((τ1 61 (τ1 50 18).toNatClampNeg) * 4))]) dX8_cell_106 rfl ?_
              refine ev_p (pc' := 108) (ls' := [some (.inr (.inr 50)), some (.inl x1), some (.inl (x2 + ((τ1 61 (τ1 50 18).toNatClampNeg) * 4))), some (.inl 1), some (.inl x4)]) (st' := []) dX8_cell_107 rfl ?_
              refine ev_p (pc' := 111) (ls' := [some (.inr (.inr 50)), some (.inl x1), some (.inl (x2 + ((τ1 61 (τ1 50 18).toNatClampNeg) * 4))), some (.inl 1), some (.inl (x4 + 1))]) (st' := []) dX8_cell_108 rfl ?_
              refine ev_go (tgt := 10) dX8_cell_111 (by decide) ?_
              exact k
          · have k := k.1 h7
            refine ev_cst (v := 4) (pc' := 83) dX8_cell_82 (by decide) rfl ?_
            refine ev_go (tgt := 101) dX8_cell_83 (by decide) ?_
            refine ev_p (pc' := 102) (ls' := [some (.inr (.inr 50)), some (.inl x1), some (.inl x2), some (.inl 1), some (.inl x4)]) (st' := [.inl ((τ1 61 (τ1 50 18).toNatClampNeg) * 4), .inl x2]) dX8_cell_101 rfl ?_
            refine ev_go (tgt := 106) dX8_cell_102 (by decide) ?_
            refine ev_p (pc' := 107) (ls' := [some (.inr (.inr 50)), some (.inl x1), some (.inl x2), some (.inl 1), some (.inl x4)]) (st' := [.inl (x2 + ((τ1 61 (τ1 50 18).toNatClampNeg) * 4))]) dX8_cell_106 rfl ?_
            refine ev_p (pc' := 108) (ls' := [some (.inr (.inr 50)), some (.inl x1), some (.inl (x2 + ((τ1 61 (τ1 50 18).toNatClampNeg) * 4))), some (.inl 1), some (.inl x4)]) (st' := []) dX8_cell_107 rfl ?_
            refine ev_p (pc' := 111) (ls' := [some (.inr (.inr 50)), some (.inl x1), some (.inl (x2 + ((τ1 61 (τ1 50 18).toNatClampNeg) * 4))), some (.inl 1), some (.inl (x4 + 1))]) (st' := []) dX8_cell_108 rfl ?_
            refine ev_go (tgt := 10) dX8_cell_111 (by decide) ?_
            exact k
set_option maxRecDepth 20000 in
theorem s_n_X8_put_0 {σ : ab_M} {Q : Option ab_V → ab_M → Prop} {x1 : Int32} {x2 : Int32} {x3 : Int32}
    (k : ab_in (σ 50 8) 128 = true ∧ (∀ τ1 : ab_M, τ1 = ab_upd σ 56 (σ 50 8).toNatClampNeg x1 → ab_in (τ1 50 8) 128 = true ∧ (∀ τ2 : ab_M, τ2 = ab_upd τ1 57 (τ1 50 8).toNatClampNeg x2 → ab_in (τ2 50 8) 128 = true ∧ (∀ τ3 : ab_M, τ3 = ab_upd τ2 58 (τ2 50 8).toNatClampNeg x3 → (∀ τ4 : ab_M, τ4 = ab_upd τ3 50 8 ((τ3 50 8) + 1) → Q none τ4))))) :
    ev mX8_put 0 [some (.inr (.inr 50)), some (.inl x1), some (.inl x2), some (.inl x3)] [] σ Q := by
  refine ev_p (pc' := 1) (ls' := [some (.inr (.inr 50)), some (.inl x1), some (.inl x2), some (.inl x3)]) (st' := [.inr (.inr 50)]) dX8_put_0 rfl ?_
  refine ev_getA (pc' := 4) (z := 56) dX8_put_1 rfl rfl rfl rfl ?_
  refine ev_p (pc' := 5) (ls' := [some (.inr (.inr 50)), some (.inl x1), some (.inl x2), some (.inl x3)]) (st' := [.inr (.inr 50), .inr (.inr 56)]) dX8_put_4 rfl ?_
  refine ev_getI (pc' := 8) dX8_put_5 rfl rfl rfl rfl ?_
  refine ev_p (pc' := 9) (ls' := [some (.inr (.inr 50)), some (.inl x1), some (.inl x2), some (.inl x3)]) (st' := [.inl x1, .inl (σ 50 8), .inr (.inr 56)]) dX8_put_8 rfl ?_
  refine ev_stor (pc' := 10) (z := x1) rfl dX8_put_9 rfl rfl k.1 rfl rfl ?_
  have k := k.2
  obtain ⟨τ1, hτ1⟩ : ∃ z : ab_M, z = ab_upd σ 56 (σ 50 8).toNatClampNeg x1 := ⟨_, rfl⟩
  rw [← hτ1]
  have k := k τ1 hτ1
  refine ev_p (pc' := 11) (ls' := [some (.inr (.inr 50)), some (.inl x1), some (.inl x2), some (.inl x3)]) (st' := [.inr (.inr 50)]) dX8_put_10 rfl ?_
  refine ev_getA (pc' := 14) (z := 57) dX8_put_11 rfl rfl rfl rfl ?_
  refine ev_p (pc' := 15) (ls' := [some (.inr (.inr 50)), some (.inl x1), some (.inl x2), some (.inl x3)]) (st' := [.inr (.inr 50), .inr (.inr 57)]) dX8_put_14 rfl ?_
  refine ev_getI (pc' := 18) dX8_put_15 rfl rfl rfl rfl ?_
  refine ev_p (pc' := 19) (ls' := [some (.inr (.inr 50)), some (.inl x1), some (.inl x2), some (.inl x3)]) (st' := [.inl x2, .inl (τ1 50 8), .inr (.inr 57)]) dX8_put_18 rfl ?_
  refine ev_stor (pc' := 20) (z := x2) rfl dX8_put_19 rfl rfl k.1 rfl rfl ?_
  have k := k.2
  obtain ⟨τ2, hτ2⟩ : ∃ z : ab_M, z = ab_upd τ1 57 (τ1 50 8).toNatClampNeg x2 := ⟨_, rfl⟩
  rw [← hτ2]
  have k := k τ2 hτ2
  refine ev_p (pc' := 21) (ls' := [some (.inr (.inr 50)), some (.inl x1), some (.inl x2), some (.inl x3)]) (st' := [.inr (.inr 50)]) dX8_put_20 rfl ?_
  refine ev_getA (pc' := 24) (z := 58) dX8_put_21 rfl rfl rfl rfl ?_
  refine ev_p (pc' := 25) (ls' := [some (.inr (.inr 50)), some (.inl x1), some (.inl x2), some (.inl x3)]) (st' := [.inr (.inr 50), .inr (.inr 58)]) dX8_put_24 rfl ?_
  refine ev_getI (pc' := 28) dX8_put_25 rfl rfl rfl rfl ?_
  refine ev_p (pc' := 29) (ls' := [some (.inr (.inr 50)), some (.inl x1), some (.inl x2), some (.inl x3)]) (st' := [.inl x3, .inl (τ2 50 8), .inr (.inr 58)]) dX8_put_28 rfl ?_
  refine ev_stor (pc' := 30) (z := x3) rfl dX8_put_29 rfl rfl k.1 rfl rfl ?_
  have k := k.2
  obtain ⟨τ3, hτ3⟩ : ∃ z : ab_M, z = ab_upd τ2 58 (τ2 50 8).toNatClampNeg x3 := ⟨_, rfl⟩
  rw [← hτ3]
  have k := k τ3 hτ3
  refine ev_p (pc' := 31) (ls' := [some (.inr (.inr 50)), some (.inl x1), some (.inl x2), some (.inl x3)]) (st' := [.inr (.inr 50)]) dX8_put_30 rfl ?_
  refine ev_p (pc' := 32) (ls' := [some (.inr (.inr 50)), some (.inl x1), some (.inl x2), some (.inl x3)]) (st' := [.inr (.inr 50), .inr (.inr 50)]) dX8_put_31 rfl ?_
  refine ev_getI (pc' := 35) dX8_put_32 rfl rfl rfl rfl ?_
  refine ev_cst (v := 1) (pc' := 36) dX8_put_35 (by decide) rfl ?_
  refine ev_p (pc' := 37) (ls' := [some (.inr (.inr 50)), some (.inl x1), some (.inl x2), some (.inl x3)]) (st' := [.inl ((τ3 50 8) + 1), .inr (.inr 50)]) dX8_put_36 rfl ?_
  refine ev_putI (pc' := 40) dX8_put_37 rfl rfl rfl rfl rfl rfl ?_
  obtain ⟨τ4, hτ4⟩ : ∃ z : ab_M, z = ab_upd τ3 50 8 ((τ3 50 8) + 1) := ⟨_, rfl⟩
  rw [← hτ4]
  have k := k τ4 hτ4
  exact ev_ret dX8_put_40 rfl k
set_option maxRecDepth 20000 in
theorem s_n_X8_isBroken_0 {σ : ab_M} {Q : Option ab_V → ab_M → Prop} {x1 : Int32}
    (k : (∀ τ1 : ab_M, τ1 = ab_upd σ 50 18 0 → ab_in x1 9 = true ∧ ev mX8_isBroken 16 [some (.inr (.inr 50)), some (.inl x1), some (.inl 1), some (.inl ((τ1 54 x1.toNatClampNeg) - 1)), none] [] τ1 Q)) :
    ev mX8_isBroken 0 [some (.inr (.inr 50)), some (.inl x1), none, none, none] [] σ Q := by
  refine ev_p (pc' := 1) (ls' := [some (.inr (.inr 50)), some (.inl x1), none, none, none]) (st' := [.inr (.inr 50)]) dX8_isBroken_0 rfl ?_
  refine ev_cst (v := 0) (pc' := 2) dX8_isBroken_1 (by decide) rfl ?_
  refine ev_putI (pc' := 5) dX8_isBroken_2 rfl rfl rfl rfl rfl rfl ?_
  obtain ⟨τ1, hτ1⟩ : ∃ z : ab_M, z = ab_upd σ 50 18 0 := ⟨_, rfl⟩
  rw [← hτ1]
  have k := k τ1 hτ1
  refine ev_cst (v := 1) (pc' := 6) dX8_isBroken_5 (by decide) rfl ?_
  refine ev_p (pc' := 7) (ls' := [some (.inr (.inr 50)), some (.inl x1), some (.inl 1), none, none]) (st' := []) dX8_isBroken_6 rfl ?_
  refine ev_p (pc' := 8) (ls' := [some (.inr (.inr 50)), some (.inl x1), some (.inl 1), none, none]) (st' := [.inr (.inr 50)]) dX8_isBroken_7 rfl ?_
  refine ev_getA (pc' := 11) (z := 54) dX8_isBroken_8 rfl rfl rfl rfl ?_
  refine ev_p (pc' := 12) (ls' := [some (.inr (.inr 50)), some (.inl x1), some (.inl 1), none, none]) (st' := [.inl x1, .inr (.inr 54)]) dX8_isBroken_11 rfl ?_
  refine ev_load (pc' := 13) rfl dX8_isBroken_12 rfl rfl k.1 rfl ?_
  have k := k.2
  refine ev_cst (v := 1) (pc' := 14) dX8_isBroken_13 (by decide) rfl ?_
  refine ev_p (pc' := 15) (ls' := [some (.inr (.inr 50)), some (.inl x1), some (.inl 1), none, none]) (st' := [.inl ((τ1 54 x1.toNatClampNeg) - 1)]) dX8_isBroken_14 rfl ?_
  refine ev_p (pc' := 16) (ls' := [some (.inr (.inr 50)), some (.inl x1), some (.inl 1), some (.inl ((τ1 54 x1.toNatClampNeg) - 1)), none]) (st' := []) dX8_isBroken_15 rfl ?_
  exact k
set_option maxRecDepth 20000 in
theorem s_n_X8_isBroken_16 {σ : ab_M} {Q : Option ab_V → ab_M → Prop} {x1 : Int32} {x2 : Int32} {x3 : Int32} {o4 : Option ab_V}
    (k : ((x3 < 0 → ((x2 = 0 → Q (some (.inl 0)) σ) ∧ (¬ x2 = 0 → ab_in 0 61 = true ∧ (((σ 61 (0 : Int32).toNatClampNeg) = 0 → Q (some (.inl 1)) σ) ∧ (¬ (σ 61 (0 : Int32).toNatClampNeg) = 0 → Q (some (.inl 0)) σ))))) ∧ (¬ x3 < 0 → ((x2 = 0 → ((x2 = 0 → Q (some (.inl 0)) σ) ∧ (¬ x2 = 0 → ab_in 0 61 = true ∧ (((σ 61 (0 : Int32).toNatClampNeg) = 0 → Q (some (.inl 1)) σ) ∧ (¬ (σ 61 (0 : Int32).toNatClampNeg) = 0 → Q (some (.inl 0)) σ))))) ∧ (¬ x2 = 0 → ab_in ((60 * x1) + x3) 540 = true ∧ (((σ 53 ((60 * x1) + x3).toNatClampNeg) = 124 → ab_in 0 61 = true ∧ (((σ 61 (0 : Int32).toNatClampNeg) = 0 → (∀ τ1 : ab_M, τ1 = ab_upd σ 50 18 0 → ev mX8_isBroken 16 [some (.inr (.inr 50)), some (.inl x1), some (.inl 1), some (.inl (x3 + (-1))), some (.inl (σ 53 ((60 * x1) + x3).toNatClampNeg))] [] τ1 Q)) ∧ (¬ (σ 61 (0 : Int32).toNatClampNeg) = 0 → (∀ τ1 : ab_M, τ1 = ab_upd σ 50 18 0 → ev mX8_isBroken 16 [some (.inr (.inr 50)), some (.inl x1), some (.inl 0), some (.inl (x3 + (-1))), some (.inl (σ 53 ((60 * x1) + x3).toNatClampNeg))] [] τ1 Q)))) ∧ (¬ (σ 53 ((60 * x1) + x3).toNatClampNeg) = 124 → evm mX8_step [.inr (.inr 50), .inl (σ 53 ((60 * x1) + x3).toNatClampNeg)] σ (fun v τ1 => v = none ∧ ev mX8_isBroken 16 [some (.inr (.inr 50)), some (.inl x1), some (.inl x2), some (.inl (x3 + (-1))), some (.inl (σ 53 ((60 * x1) + x3).toNatClampNeg))] [] τ1 Q)))))))) :
    ev mX8_isBroken 16 [some (.inr (.inr 50)), some (.inl x1), some (.inl x2), some (.inl x3), o4] [] σ Q := by
  refine ev_p (pc' := 17) (ls' := [some (.inr (.inr 50)), some (.inl x1), some (.inl x2), some (.inl x3), o4]) (st' := [.inl x3]) dX8_isBroken_16 rfl ?_
  refine ev_if_lt (tgt := 79) (pc' := 20) dX8_isBroken_17 (by decide) rfl (fun h1 => ?_) (fun h1 => ?_)
  · have k := k.1 h1
    refine ev_p (pc' := 80) (ls' := [some (.inr (.inr 50)), some (.inl x1), some (.inl x2), some (.inl x3), o4]) (st' := [.inl x2]) dX8_isBroken_79 rfl ?_
    refine ev_if_eq (tgt := 96) (pc' := 83) dX8_isBroken_80 (by decide) rfl (fun h2 => ?_) (fun h2 => ?_)
    · have k := k.1 h2
      refine ev_cst (v := 0) (pc' := 97) dX8_isBroken_96 (by decide) rfl ?_
      exact ev_retZ dX8_isBroken_97 rfl rfl k
    · have k := k.2 h2
      refine ev_p (pc' := 84) (ls' := [some (.inr (.inr 50)), some (.inl x1), some (.inl x2), some (.inl x3), o4]) (st' := [.inr (.inr 50)]) dX8_isBroken_83 rfl ?_
      refine ev_getA (pc' := 87) (z := 61) dX8_isBroken_84 rfl rfl rfl rfl ?_
      refine ev_cst (v := 0) (pc' := 88) dX8_isBroken_87 (by decide) rfl ?_
      refine ev_load (pc' := 89) rfl dX8_isBroken_88 rfl rfl k.1 rfl ?_
      have k := k.2
      refine ev_if_ne (tgt := 96) (pc' := 92) dX8_isBroken_89 (by decide) rfl (fun h3 => ?_) (fun h3 => ?_)
      · have k := k.2 h3
        refine ev_cst (v := 0) (pc' := 97) dX8_isBroken_96 (by decide) rfl ?_
        exact ev_retZ dX8_isBroken_97 rfl rfl k
      · have k := k.1 h3
        refine ev_cst (v := 1) (pc' := 93) dX8_isBroken_92 (by decide) rfl ?_
        refine ev_go (tgt := 97) dX8_isBroken_93 (by decide) ?_
        exact ev_retZ dX8_isBroken_97 rfl rfl k
  · have k := k.2 h1
    refine ev_p (pc' := 21) (ls' := [some (.inr (.inr 50)), some (.inl x1), some (.inl x2), some (.inl x3), o4]) (st' := [.inl x2]) dX8_isBroken_20 rfl ?_
    refine ev_if_eq (tgt := 79) (pc' := 24) dX8_isBroken_21 (by decide) rfl (fun h4 => ?_) (fun h4 => ?_)
    · have k := k.1 h4
      refine ev_p (pc' := 80) (ls' := [some (.inr (.inr 50)), some (.inl x1), some (.inl x2), some (.inl x3), o4]) (st' := [.inl x2]) dX8_isBroken_79 rfl ?_
      refine ev_if_eq (tgt := 96) (pc' := 83) dX8_isBroken_80 (by decide) rfl (fun h5 => ?_) (fun h5 => ?_)
      · have k := k.1 h5
        refine ev_cst (v := 0) (pc' := 97) dX8_isBroken_96 (by decide) rfl ?_
        exact ev_retZ dX8_isBroken_97 rfl rfl k
      · have k := k.2 h5
        refine ev_p (pc' := 84) (ls' := [some (.inr (.inr 50)), some (.inl x1), some (.inl x2), some (.inl x3), o4]) (st' := [.inr (.inr 50)]) dX8_isBroken_83 rfl ?_
        refine ev_getA (pc' := 87) (z := 61) dX8_isBroken_84 rfl rfl rfl rfl ?_
        refine ev_cst (v := 0) (pc' := 88) dX8_isBroken_87 (by decide) rfl ?_
        refine ev_load (pc' := 89) rfl dX8_isBroken_88 rfl rfl k.1 rfl ?_
        have k := k.2
        refine ev_if_ne (tgt := 96) (pc' := 92) dX8_isBroken_89 (by decide) rfl (fun h6 => ?_) (fun h6 => ?_)
        · have k := k.2 h6
          refine ev_cst (v := 0) (pc' := 97) dX8_isBroken_96 (by decide) rfl ?_
          exact ev_retZ dX8_isBroken_97 rfl rfl k
        · have k := k.1 h6
          refine ev_cst (v := 1) (pc' := 93) dX8_isBroken_92 (by decide) rfl ?_
          refine ev_go (tgt := 97) dX8_isBroken_93 (by decide) ?_
          exact ev_retZ dX8_isBroken_97 rfl rfl k
    · have k := k.2 h4
      refine ev_p (pc' := 25) (ls' := [some (.inr (.inr 50)), some (.inl x1), some (.inl x2), some (.inl x3), o4]) (st' := [.inr (.inr 50)]) dX8_isBroken_24 rfl ?_
      refine ev_getA (pc' := 28) (z := 53) dX8_isBroken_25 rfl rfl rfl rfl ?_
      refine ev_cst (v := 60) (pc' := 30) dX8_isBroken_28 (by decide) rfl ?_
      refine ev_p (pc' := 31) (ls' := [some (.inr (.inr 50)), some (.inl x1), some (.inl x2), some (.inl x3), o4]) (st' := [.inl x1, .inl 60, .inr (.inr 53)]) dX8_isBroken_30 rfl ?_
      refine ev_p (pc' := 32) (ls' := [some (.inr (.inr 50)), some (.inl x1), some (.inl x2), some (.inl x3), o4]) (st' := [.inl (60 * x1), .inr (.inr 53)]) dX8_isBroken_31 rfl ?_
      refine ev_p (pc' := 33) (ls' := [some (.inr (.inr 50)), some (.inl x1), some (.inl x2), some (.inl x3), o4]) (st' := [.inl x3, .inl (60 * x1), .inr (.inr 53)]) dX8_isBroken_32 rfl ?_
      refine ev_p (pc' := 34) (ls' := [some (.inr (.inr 50)), some (.inl x1), some (.inl x2), some (.inl x3), o4]) (st' := [.inl ((60 * x1) + x3), .inr (.inr 53)]) dX8_isBroken_33 rfl ?_
      refine ev_load (pc' := 35) rfl dX8_isBroken_34 rfl rfl k.1 rfl ?_
      have k := k.2
      refine ev_p (pc' := 37) (ls' := [some (.inr (.inr 50)), some (.inl x1), some (.inl x2), some (.inl x3), some (.inl (σ 53 ((60 * x1) + x3).toNatClampNeg))]) (st' := []) dX8_isBroken_35 rfl ?_
      refine ev_p (pc' := 39) (ls' := [some (.inr (.inr 50)), some (.inl x1), some (.inl x2), some (.inl x3), some (.inl (σ 53 ((60 * x1) + x3).toNatClampNeg))]) (st' := [.inl (σ 53 ((60 * x1) + x3).toNatClampNeg)]) dX8_isBroken_37 rfl ?_
      refine ev_cst (v := 124) (pc' := 41) dX8_isBroken_39 (by decide) rfl ?_
      refine ev_ic_ne (tgt := 67) (pc' := 44) dX8_isBroken_41 (by decide) rfl (fun h7 => ?_) (fun h7 => ?_)
      · have k := k.2 h7
        refine ev_p (pc' := 68) (ls' := [some (.inr (.inr 50)), some (.inl x1), some (.inl x2), some (.inl x3), some (.inl (σ 53 ((60 * x1) + x3).toNatClampNeg))]) (st' := [.inr (.inr 50)]) dX8_isBroken_67 rfl ?_
        refine ev_p (pc' := 70) (ls' := [some (.inr (.inr 50)), some (.inl x1), some (.inl x2), some (.inl x3), some (.inl (σ 53 ((60 * x1) + x3).toNatClampNeg))]) (st' := [.inl (σ 53 ((60 * x1) + x3).toNatClampNeg), .inr (.inr 50)]) dX8_isBroken_68 rfl ?_
        refine ev_call (y := 101) (as := [.inr (.inr 50), .inl (σ 53 ((60 * x1) + x3).toNatClampNeg)]) (r := []) (M' := mX8_step) (pc' := 73) dX8_isBroken_70 rfl rfl ⟨rfl, rfl⟩ rfl k rfl (fun v τ1 hq => ?_)
        obtain ⟨hv, k⟩ := hq
        rw [hv]
        change ev mX8_isBroken 73 [some (.inr (.inr 50)), some (.inl x1), some (.inl x2), some (.inl x3), some (.inl (σ 53 ((60 * x1) + x3).toNatClampNeg))] [] τ1 _
        refine ev_p (pc' := 76) (ls' := [some (.inr (.inr 50)), some (.inl x1), some (.inl x2), some (.inl (x3 + (-1))), some (.inl (σ 53 ((60 * x1) + x3).toNatClampNeg))]) (st' := []) dX8_isBroken_73 rfl ?_
        refine ev_go (tgt := 16) dX8_isBroken_76 (by decide) ?_
        exact k
      · have k := k.1 h7
        refine ev_p (pc' := 45) (ls' := [some (.inr (.inr 50)), some (.inl x1), some (.inl x2), some (.inl x3), some (.inl (σ 53 ((60 * x1) + x3).toNatClampNeg))]) (st' := [.inr (.inr 50)]) dX8_isBroken_44 rfl ?_
        refine ev_getA (pc' := 48) (z := 61) dX8_isBroken_45 rfl rfl rfl rfl ?_
        refine ev_cst (v := 0) (pc' := 49) dX8_isBroken_48 (by decide) rfl ?_
        refine ev_load (pc' := 50) rfl dX8_isBroken_49 rfl rfl k.1 rfl ?_
        have k := k.2
        refine ev_if_ne (tgt := 57) (pc' := 53) dX8_isBroken_50 (by decide) rfl (fun h8 => ?_) (fun h8 => ?_)
        · have k := k.2 h8
          refine ev_cst (v := 0) (pc' := 58) dX8_isBroken_57 (by decide) rfl ?_
          refine ev_p (pc' := 59) (ls' := [some (.inr (.inr 50)), some (.inl x1), some (.inl 0), some (.inl x3), some (.inl (σ 53 ((60 * x1) + x3).toNatClampNeg))]) (st' := []) dX8_isBroken_58 rfl ?_
          refine ev_p (pc' := 60) (ls' := [some (.inr (.inr 50)), some (.inl x1), some (.inl 0), some (.inl x3), some (.inl (σ 53 ((60 * x1) + x3).toNatClampNeg))]) (st' := [.inr (.inr 50)]) dX8_isBroken_59 rfl ?_
          refine ev_cst (v := 0) (pc' := 61) dX8_isBroken_60 (by decide) rfl ?_
          refine ev_putI (pc' := 64) dX8_isBroken_61 rfl rfl rfl rfl rfl rfl ?_
          obtain ⟨τ1, hτ1⟩ : ∃ z : ab_M, z = ab_upd σ 50 18 0 := ⟨_, rfl⟩
          rw [← hτ1]
          have k := k τ1 hτ1
          refine ev_go (tgt := 73) dX8_isBroken_64 (by decide) ?_
          refine ev_p (pc' := 76) (ls' := [some (.inr (.inr 50)), some (.inl x1), some (.inl 0), some (.inl (x3 + (-1))), some (.inl (σ 53 ((60 * x1) + x3).toNatClampNeg))]) (st' := []) dX8_isBroken_73 rfl ?_
          refine ev_go (tgt := 16) dX8_isBroken_76 (by decide) ?_
          exact k
        · have k := k.1 h8
          refine ev_cst (v := 1) (pc' := 54) dX8_isBroken_53 (by decide) rfl ?_
          refine ev_go (tgt := 58) dX8_isBroken_54 (by decide) ?_
          refine ev_p (pc' := 59) (ls' := [some (.inr (.inr 50)), some (.inl x1), some (.inl 1), some (.inl x3), some (.inl (σ 53 ((60 * x1) + x3).toNatClampNeg))]) (st' := []) dX8_isBroken_58 rfl ?_
          refine ev_p (pc' := 60) (ls' := [some (.inr (.inr 50)), some (.inl x1), some (.inl 1), some (.inl x3), some (.inl (σ 53 ((60 * x1) + x3).toNatClampNeg))]) (st' := [.inr (.inr 50)]) dX8_isBroken_59 rfl ?_
          refine ev_cst (v := 0) (pc' := 61) dX8_isBroken_60 (by decide) rfl ?_
          refine ev_putI (pc' := 64) dX8_isBroken_61 rfl rfl rfl rfl rfl rfl ?_
          obtain ⟨τ1, hτ1⟩ : ∃ z : ab_M, z = ab_upd σ 50 18 0 := ⟨_, rfl⟩
          rw [← hτ1]
          have k := k τ1 hτ1
          refine ev_go (tgt := 73) dX8_isBroken_64 (by decide) ?_
          refine ev_p (pc' := 76) (ls' := [some (.inr (.inr 50)), some (.inl x1), some (.inl 1), some (.inl (x3 + (-1))), some (.inl (σ 53 ((60 * x1) + x3).toNatClampNeg))]) (st' := []) dX8_isBroken_73 rfl ?_
          refine ev_go (tgt := 16) dX8_isBroken_76 (by decide) ?_
          exact k
set_option maxRecDepth 20000 in
theorem s_n_X8_breaks_0 {σ : ab_M} {Q : Option ab_V → ab_M → Prop} {x1 : Int32}
    (k : evm mX8_has [.inr (.inr 50), .inl x1, .inl 120] σ (fun v τ1 => ∃ r2 : Int32, v = some (.inl r2) ∧ ((r2 = 0 → evm mX8_has [.inr (.inr 50), .inl x1, .inl 121] τ1 (fun v τ3 => ∃ r4 : Int32, v = some (.inl r4) ∧ ((r4 = 0 → evm mX8_has [.inr (.inr 50), .inl x1, .inl 122] τ3 (fun v τ5 => ∃ r6 : Int32, v = some (.inl r6) ∧ ((r6 = 0 → ev mX8_breaks 61 [some (.inr (.inr 50)), some (.inl x1), some (.inl 1), some (.inl 1), some (.inl 1), some (.inl 0)] [] τ5 Q) ∧ (¬ r6 = 0 → ev mX8_breaks 61 [some (.inr (.inr 50)), some (.inl x1), some (.inl 1), some (.inl 1), some (.inl (τ5 50 7)), some (.inl 0)] [] τ5 Q)))) ∧ (¬ r4 = 0 → evm mX8_has [.inr (.inr 50), .inl x1, .inl 122] τ3 (fun v τ5 => ∃ r6 : Int32, v = some (.inl r6) ∧ ((r6 = 0 → ev mX8_breaks 61 [some (.inr (.inr 50)), some (.inl x1), some (.inl 1), some (.inl (τ3 50 7)), some (.inl 1), some (.inl 0)] [] τ5 Q) ∧ (¬ r6 = 0 → ev mX8_breaks 61 [some (.inr (.inr 50)), some (.inl x1), some (.inl 1), some (.inl (τ3 50 7)), some (.inl (τ5 50 7)), some (.inl 0)] [] τ5 Q))))))) ∧ (¬ r2 = 0 → evm mX8_has [.inr (.inr 50), .inl x1, .inl 121] τ1 (fun v τ3 => ∃ r4 : Int32, v = some (.inl r4) ∧ ((r4 = 0 → evm mX8_has [.inr (.inr 50), .inl x1, .inl 122] τ3 (fun v τ5 => ∃ r6 : Int32, v = some (.inl r6) ∧ ((r6 = 0 → ev mX8_breaks 61 [some (.inr (.inr 50)), some (.inl x1), some (.inl (τ1 50 7)), some (.inl 1), some (.inl 1), some (.inl 0)] [] τ5 Q) ∧ (¬ r6 = 0 → ev mX8_breaks 61 [some (.inr (.inr 50)), some (.inl x1), some (.inl (τ1 50 7)), some (.inl 1), some (.inl (τ5 50 7)), some (.inl 0)] [] τ5 Q)))) ∧ (¬ r4 = 0 → evm mX8_has [.inr (.inr 50), .inl x1, .inl 122] τ3 (fun v τ5 => ∃ r6 : Int32, v = some (.inl r6) ∧ ((r6 = 0 → ev mX8_breaks 61 [some (.inr (.inr 50)), some (.inl x1), some (.inl (τ1 50 7)), some (.inl (τ3 50 7)), some (.inl 1), some (.inl 0)] [] τ5 Q) ∧ (¬ r6 = 0 → ev mX8_breaks 61 [some (.inr (.inr 50)), some (.inl x1), some (.inl (τ1 50 7)), some (.inl (τ3 50 7)), some (.inl (τ5 50 7)), some (.inl 0)] [] τ5 Q)))))))))) :
    ev mX8_breaks 0 [some (.inr (.inr 50)), some (.inl x1), none, none, none, none] [] σ Q := by
  refine ev_p (pc' := 1) (ls' := [some (.inr (.inr 50)), some (.inl x1), none, none, none, none]) (st' := [.inr (.inr 50)]) dX8_breaks_0 rfl ?_
  refine ev_p (pc' := 2) (ls' := [some (.inr (.inr 50)), some (.inl x1), none, none, none, none]) (st' := [.inl x1, .inr (.inr 50)]) dX8_breaks_1 rfl ?_
  refine ev_cst (v := 120) (pc' := 4) dX8_breaks_2 (by decide) rfl ?_
  refine ev_call (y := 98) (as := [.inr (.inr 50), .inl x1, .inl 120]) (r := []) (M' := mX8_has) (pc' := 7) dX8_breaks_4 rfl rfl ⟨rfl, rfl⟩ rfl k rfl (fun v τ1 hq => ?_)
  obtain ⟨r2, hv, k⟩ := hq
  rw [hv]
  change ev mX8_breaks 7 [some (.inr (.inr 50)), some (.inl x1), none, none, none, none] [.inl r2] τ1 _
  refine ev_if_eq (tgt := 17) (pc' := 10) dX8_breaks_7 (by decide) rfl (fun h1 => ?_) (fun h1 => ?_)
  · have k := k.1 h1
    refine ev_cst (v := 1) (pc' := 18) dX8_breaks_17 (by decide) rfl ?_
    refine ev_p (pc' := 19) (ls' := [some (.inr (.inr 50)), some (.inl x1), some (.inl 1), none, none, none]) (st' := []) dX8_breaks_18 rfl ?_
    refine ev_p (pc' := 20) (ls' := [some (.inr (.inr 50)), some (.inl x1), some (.inl 1), none, none, none]) (st' := [.inr (.inr 50)]) dX8_breaks_19 rfl ?_
    refine ev_p (pc' := 21) (ls' := [some (.inr (.inr 50)), some (.inl x1), some (.inl 1), none, none, none]) (st' := [.inl x1, .inr (.inr 50)]) dX8_breaks_20 rfl ?_
    refine ev_cst (v := 121) (pc' := 23) dX8_breaks_21 (by decide) rfl ?_
    refine ev_call (y := 98) (as := [.inr (.inr 50), .inl x1, .inl 121]) (r := []) (M' := mX8_has) (pc' := 26) dX8_breaks_23 rfl rfl ⟨rfl, rfl⟩ rfl k rfl (fun v τ3 hq => ?_)
    obtain ⟨r4, hv, k⟩ := hq
    rw [hv]
    change ev mX8_breaks 26 [some (.inr (.inr 50)), some (.inl x1), some (.inl 1), none, none, none] [.inl r4] τ3 _
    refine ev_if_eq (tgt := 36) (pc' := 29) dX8_breaks_26 (by decide) rfl (fun h2 => ?_) (fun h2 => ?_)
    · have k := k.1 h2
      refine ev_cst (v := 1) (pc' := 37) dX8_breaks_36 (by decide) rfl ?_
      refine ev_p (pc' := 38) (ls' := [some (.inr (.inr 50)), some (.inl x1), some (.inl 1), some (.inl 1), none, none]) (st' := []) dX8_breaks_37 rfl ?_
      refine ev_p (pc' := 39) (ls' := [some (.inr (.inr 50)), some (.inl x1), some (.inl 1), some (.inl 1), none, none]) (st' := [.inr (.inr 50)]) dX8_breaks_38 rfl ?_
      refine ev_p (pc' := 40) (ls' := [some (.inr (.inr 50)), some (.inl x1), some (.inl 1), some (.inl 1), none, none]) (st' := [.inl x1, .inr (.inr 50)]) dX8_breaks_39 rfl ?_
      refine ev_cst (v := 122) (pc' := 42) dX8_breaks_40 (by decide) rfl ?_
      refine ev_call (y := 98) (as := [.inr (.inr 50), .inl x1, .inl 122]) (r := []) (M' := mX8_has) (pc' := 45) dX8_breaks_42 rfl rfl ⟨rfl, rfl⟩ rfl k rfl (fun v τ5 hq => ?_)
      obtain ⟨r6, hv, k⟩ := hq
      rw [hv]
      change ev mX8_breaks 45 [some (.inr (.inr 50)), some (.inl x1), some (.inl 1), some (.inl 1), none, none] [.inl r6] τ5 _
      refine ev_if_eq (tgt := 55) (pc' := 48) dX8_breaks_45 (by decide) rfl (fun h3 => ?_) (fun h3 => ?_)
      · have k := k.1 h3
        refine ev_cst (v := 1) (pc' := 56) dX8_breaks_55 (by decide) rfl ?_
        refine ev_p (pc' := 58) (ls' := [some (.inr (.inr 50)), some (.inl x1), some (.inl 1), some (.inl 1), some (.inl 1), none]) (st' := []) dX8_breaks_56 rfl ?_
        refine ev_cst (v := 0) (pc' := 59) dX8_breaks_58 (by decide) rfl ?_
        refine ev_p (pc' := 61) (ls' := [some (.inr (.inr 50)), some (.inl x1), some (.inl 1), some (.inl 1), some (.inl 1), some (.inl 0)]) (st' := []) dX8_breaks_59 rfl ?_
        exact k
      · have k := k.2 h3
        refine ev_p (pc' := 49) (ls' := [some (.inr (.inr 50)), some (.inl x1), some (.inl 1), some (.inl 1), none, none]) (st' := [.inr (.inr 50)]) dX8_breaks_48 rfl ?_
        refine ev_getI (pc' := 52) dX8_breaks_49 rfl rfl rfl rfl ?_
        refine ev_go (tgt := 56) dX8_breaks_52 (by decide) ?_
        refine ev_p (pc' := 58) (ls' := [some (.inr (.inr 50)), some (.inl x1), some (.inl 1), some (.inl 1), some (.inl (τ5 50 7)), none]) (st' := []) dX8_breaks_56 rfl ?_
        refine ev_cst (v := 0) (pc' := 59) dX8_breaks_58 (by decide) rfl ?_
        refine ev_p (pc' := 61) (ls' := [some (.inr (.inr 50)), some (.inl x1), some (.inl 1), some (.inl 1), some (.inl (τ5 50 7)), some (.inl 0)]) (st' := []) dX8_breaks_59 rfl ?_
        exact k
    · have k := k.2 h2
      refine ev_p (pc' := 30) (ls' := [some (.inr (.inr 50)), some (.inl x1), some (.inl 1), none, none, none]) (st' := [.inr (.inr 50)]) dX8_breaks_29 rfl ?_
      refine ev_getI (pc' := 33) dX8_breaks_30 rfl rfl rfl rfl ?_
      refine ev_go (tgt := 37) dX8_breaks_33 (by decide) ?_
      refine ev_p (pc' := 38) (ls' := [some (.inr (.inr 50)), some (.inl x1), some (.inl 1), some (.inl (τ3 50 7)), none, none]) (st' := []) dX8_breaks_37 rfl ?_
      refine ev_p (pc' := 39) (ls' := [some (.inr (.inr 50)), some (.inl x1), some (.inl 1), some (.inl (τ3 50 7)), none, none]) (st' := [.inr (.inr 50)]) dX8_breaks_38 rfl ?_
      refine ev_p (pc' := 40) (ls' := [some (.inr (.inr 50)), some (.inl x1), some (.inl 1), some (.inl (τ3 50 7)), none, none]) (st' := [.inl x1, .inr (.inr 50)]) dX8_breaks_39 rfl ?_
      refine ev_cst (v := 122) (pc' := 42) dX8_breaks_40 (by decide) rfl ?_
      refine ev_call (y := 98) (as := [.inr (.inr 50), .inl x1, .inl 122]) (r := []) (M' := mX8_has) (pc' := 45) dX8_breaks_42 rfl rfl ⟨rfl, rfl⟩ rfl k rfl (fun v τ5 hq => ?_)
      obtain ⟨r6, hv, k⟩ := hq
      rw [hv]
      change ev mX8_breaks 45 [some (.inr (.inr 50)), some (.inl x1), some (.inl 1), some (.inl (τ3 50 7)), none, none] [.inl r6] τ5 _
      refine ev_if_eq (tgt := 55) (pc' := 48) dX8_breaks_45 (by decide) rfl (fun h4 => ?_) (fun h4 => ?_)
      · have k := k.1 h4
        refine ev_cst (v := 1) (pc' := 56) dX8_breaks_55 (by decide) rfl ?_
        refine ev_p (pc' := 58) (ls' := [some (.inr (.inr 50)), some (.inl x1), some (.inl 1), some (.inl (τ3 50 7)), some (.inl 1), none]) (st' := []) dX8_breaks_56 rfl ?_
        refine ev_cst (v := 0) (pc' := 59) dX8_breaks_58 (by decide) rfl ?_
        refine ev_p (pc' := 61) (ls' := [some (.inr (.inr 50)), some (.inl x1), some (.inl 1), some (.inl (τ3 50 7)), some (.inl 1), some (.inl 0)]) (st' := []) dX8_breaks_59 rfl ?_
        exact k
      · have k := k.2 h4
        refine ev_p (pc' := 49) (ls' := [some (.inr (.inr 50)), some (.inl x1), some (.inl 1), some (.inl (τ3 50 7)), none, none]) (st' := [.inr (.inr 50)]) dX8_breaks_48 rfl ?_
        refine ev_getI (pc' := 52) dX8_breaks_49 rfl rfl rfl rfl ?_
        refine ev_go (tgt := 56) dX8_breaks_52 (by decide) ?_
        refine ev_p (pc' := 58) (ls' := [some (.inr (.inr 50)), some (.inl x1), some (.inl 1), some (.inl (τ3 50 7)), some (.inl (τ5 50 7)), none]) (st' := []) dX8_breaks_56 rfl ?_
        refine ev_cst (v := 0) (pc' := 59) dX8_breaks_58 (by decide) rfl ?_
        refine ev_p (pc' := 61) (ls' := [some (.inr (.inr 50)), some (.inl x1), some (.inl 1), some (.inl (τ3 50 7)), some (.inl (τ5 50 7)), some (.inl 0)]) (st' := []) dX8_breaks_59 rfl ?_
        exact k
  · have k := k.2 h1
    refine ev_p (pc' := 11) (ls' := [some (.inr (.inr 50)), some (.inl x1), none, none, none, none]) (st' := [.inr (.inr 50)]) dX8_breaks_10 rfl ?_
    refine ev_getI (pc' := 14) dX8_breaks_11 rfl rfl rfl rfl ?_
    refine ev_go (tgt := 18) dX8_breaks_14 (by decide) ?_
    refine ev_p (pc' := 19) (ls' := [some (.inr (.inr 50)), some (.inl x1), some (.inl (τ1 50 7)), none, none, none]) (st' := []) dX8_breaks_18 rfl ?_
    refine ev_p (pc' := 20) (ls' := [some (.inr (.inr 50)), some (.inl x1), some (.inl (τ1 50 7)), none, none, none]) (st' := [.inr (.inr 50)]) dX8_breaks_19 rfl ?_
    refine ev_p (pc' := 21) (ls' := [some (.inr (.inr 50)), some (.inl x1), some (.inl (τ1 50 7)), none, none, none]) (st' := [.inl x1, .inr (.inr 50)]) dX8_breaks_20 rfl ?_
    refine ev_cst (v := 121) (pc' := 23) dX8_breaks_21 (by decide) rfl ?_
    refine ev_call (y := 98) (as := [.inr (.inr 50), .inl x1, .inl 121]) (r := []) (M' := mX8_has) (pc' := 26) dX8_breaks_23 rfl rfl ⟨rfl, rfl⟩ rfl k rfl (fun v τ3 hq => ?_)
    obtain ⟨r4, hv, k⟩ := hq
    rw [hv]
    change ev mX8_breaks 26 [some (.inr (.inr 50)), some (.inl x1), some (.inl (τ1 50 7)), none, none, none] [.inl r4] τ3 _
    refine ev_if_eq (tgt := 36) (pc' := 29) dX8_breaks_26 (by decide) rfl (fun h5 => ?_) (fun h5 => ?_)
    · have k := k.1 h5
      refine ev_cst (v := 1) (pc' := 37) dX8_breaks_36 (by decide) rfl ?_
      refine ev_p (pc' := 38) (ls' := [some (.inr (.inr 50)), some (.inl x1), some (.inl (τ1 50 7)), some (.inl 1), none, none]) (st' := []) dX8_breaks_37 rfl ?_
      refine ev_p (pc' := 39) (ls' := [some (.inr (.inr 50)), some (.inl x1), some (.inl (τ1 50 7)), some (.inl 1), none, none]) (st' := [.inr (.inr 50)]) dX8_breaks_38 rfl ?_
      refine ev_p (pc' := 40) (ls' := [some (.inr (.inr 50)), some (.inl x1), some (.inl (τ1 50 7)), some (.inl 1), none, none]) (st' := [.inl x1, .inr (.inr 50)]) dX8_breaks_39 rfl ?_
      refine ev_cst (v := 122) (pc' := 42) dX8_breaks_40 (by decide) rfl ?_
      refine ev_call (y := 98) (as := [.inr (.inr 50), .inl x1, .inl 122]) (r := []) (M' := mX8_has) (pc' := 45) dX8_breaks_42 rfl rfl ⟨rfl, rfl⟩ rfl k rfl (fun v τ5 hq => ?_)
      obtain ⟨r6, hv, k⟩ := hq
      rw [hv]
      change ev mX8_breaks 45 [some (.inr (.inr 50)), some (.inl x1), some (.inl (τ1 50 7)), some (.inl 1), none, none] [.inl r6] τ5 _
      refine ev_if_eq (tgt := 55) (pc' := 48) dX8_breaks_45 (by decide) rfl (fun h6 => ?_) (fun h6 => ?_)
      · have k := k.1 h6
        refine ev_cst (v := 1) (pc' := 56) dX8_breaks_55 (by decide) rfl ?_
        refine ev_p (pc' := 58) (ls' := [some (.inr (.inr 50)), some (.inl x1), some (.inl (τ1 50 7)), some (.inl 1), some (.inl 1), none]) (st' := []) dX8_breaks_56 rfl ?_
        refine ev_cst (v := 0) (pc' := 59) dX8_breaks_58 (by decide) rfl ?_
        refine ev_p (pc' := 61) (ls' := [some (.inr (.inr 50)), some (.inl x1), some (.inl (τ1 50 7)), some (.inl 1), some (.inl 1), some (.inl 0)]) (st' := []) dX8_breaks_59 rfl ?_
        exact k
      · have k := k.2 h6
        refine ev_p (pc' := 49) (ls' := [some (.inr (.inr 50)), some (.inl x1), some (.inl (τ1 50 7)), some (.inl 1), none, none]) (st' := [.inr (.inr 50)]) dX8_breaks_48 rfl ?_
        refine ev_getI (pc' := 52) dX8_breaks_49 rfl rfl rfl rfl ?_
        refine ev_go (tgt := 56) dX8_breaks_52 (by decide) ?_
        refine ev_p (pc' := 58) (ls' := [some (.inr (.inr 50)), some (.inl x1), some (.inl (τ1 50 7)), some (.inl 1), some (.inl (τ5 50 7)), none]) (st' := []) dX8_breaks_56 rfl ?_
        refine ev_cst (v := 0) (pc' := 59) dX8_breaks_58 (by decide) rfl ?_
        refine ev_p (pc' := 61) (ls' := [some (.inr (.inr 50)), some (.inl x1), some (.inl (τ1 50 7)), some (.inl 1), some (.inl (τ5 50 7)), some (.inl 0)]) (st' := []) dX8_breaks_59 rfl ?_
        exact k
    · have k := k.2 h5
      refine ev_p (pc' := 30) (ls' := [some (.inr (.inr 50)), some (.inl x1), some (.inl (τ1 50 7)), none, none, none]) (st' := [.inr (.inr 50)]) dX8_breaks_29 rfl ?_
      refine ev_getI (pc' := 33) dX8_breaks_30 rfl rfl rfl rfl ?_
      refine ev_go (tgt := 37) dX8_breaks_33 (by decide) ?_
      refine ev_p (pc' := 38) (ls' := [some (.inr (.inr 50)), some (.inl x1), some (.inl (τ1 50 7)), some (.inl (τ3 50 7)), none, none]) (st' := []) dX8_breaks_37 rfl ?_
      refine ev_p (pc' := 39) (ls' := [some (.inr (.inr 50)), some (.inl x1), some (.inl (τ1 50 7)), some (.inl (τ3 50 7)), none, none]) (st' := [.inr (.inr 50)]) dX8_breaks_38 rfl ?_
      refine ev_p (pc' := 40) (ls' := [some (.inr (.inr 50)), some (.inl x1), some (.inl (τ1 50 7)), some (.inl (τ3 50 7)), none, none]) (st' := [.inl x1, .inr (.inr 50)]) dX8_breaks_39 rfl ?_
      refine ev_cst (v := 122) (pc' := 42) dX8_breaks_40 (by decide) rfl ?_
      refine ev_call (y := 98) (as := [.inr (.inr 50), .inl x1, .inl 122]) (r := []) (M' := mX8_has) (pc' := 45) dX8_breaks_42 rfl rfl ⟨rfl, rfl⟩ rfl k rfl (fun v τ5 hq => ?_)
      obtain ⟨r6, hv, k⟩ := hq
      rw [hv]
      change ev mX8_breaks 45 [some (.inr (.inr 50)), some (.inl x1), some (.inl (τ1 50 7)), some (.inl (τ3 50 7)), none, none] [.inl r6] τ5 _
      refine ev_if_eq (tgt := 55) (pc' := 48) dX8_breaks_45 (by decide) rfl (fun h7 => ?_) (fun h7 => ?_)
      · have k := k.1 h7
        refine ev_cst (v := 1) (pc' := 56) dX8_breaks_55 (by decide) rfl ?_
        refine ev_p (pc' := 58) (ls' := [some (.inr (.inr 50)), some (.inl x1), some (.inl (τ1 50 7)), some (.inl (τ3 50 7)), some (.inl 1), none]) (st' := []) dX8_breaks_56 rfl ?_
        refine ev_cst (v := 0) (pc' := 59) dX8_breaks_58 (by decide) rfl ?_
        refine ev_p (pc' := 61) (ls' := [some (.inr (.inr 50)), some (.inl x1), some (.inl (τ1 50 7)), some (.inl (τ3 50 7)), some (.inl 1), some (.inl 0)]) (st' := []) dX8_breaks_59 rfl ?_
        exact k
      · have k := k.2 h7
        refine ev_p (pc' := 49) (ls' := [some (.inr (.inr 50)), some (.inl x1), some (.inl (τ1 50 7)), some (.inl (τ3 50 7)), none, none]) (st' := [.inr (.inr 50)]) dX8_breaks_48 rfl ?_
        refine ev_getI (pc' := 52) dX8_breaks_49 rfl rfl rfl rfl ?_
        refine ev_go (tgt := 56) dX8_breaks_52 (by decide) ?_
        refine ev_p (pc' := 58) (ls' := [some (.inr (.inr 50)), some (.inl x1), some (.inl (τ1 50 7)), some (.inl (τ3 50 7)), some (.inl (τ5 50 7)), none]) (st' := []) dX8_breaks_56 rfl ?_
        refine ev_cst (v := 0) (pc' := 59) dX8_breaks_58 (by decide) rfl ?_
        refine ev_p (pc' := 61) (ls' := [some (.inr (.inr 50)), some (.inl x1), some (.inl (τ1 50 7)), some (.inl (τ3 50 7)), some (.inl (τ5 50 7)), some (.inl 0)]) (st' := []) dX8_breaks_59 rfl ?_
        exact k
set_option maxRecDepth 20000 in
theorem s_n_X8_breaks_61 {σ : ab_M} {Q : Option ab_V → ab_M → Prop} {x1 : Int32} {x2 : Int32} {x3 : Int32} {x4 : Int32} {x5 : Int32}
    (k : ((((x2 * x3) * x4) ≤ x5 → Q (some (.inl 0)) σ) ∧ (¬ ((x2 * x3) * x4) ≤ x5 → ¬ (x3 * x4) = 0 ∧ ab_in 0 3 = true ∧ (∀ τ1 : ab_M, τ1 = ab_upd σ 59 (0 : Int32).toNatClampNeg (x5 / (x3 * x4)) → ¬ x4 = 0 ∧ ¬ x3 = 0 ∧ ab_in 1 3 = true ∧ (∀ τ2 : ab_M, τ2 = ab_upd τ1 59 (1 : Int32).toNatClampNeg ((x5 / x4) - (x5 / x4) / x3 * x3) → ¬ x4 = 0 ∧ ab_in 2 3 = true ∧ (∀ τ3 : ab_M, τ3 = ab_upd τ2 59 (2 : Int32).toNatClampNeg (x5 - x5 / x4 * x4) → evm mX8_isBroken [.inr (.inr 50), .inl x1] τ3 (fun v τ4 => ∃ r5 : Int32, v = some (.inl r5) ∧ ((r5 = 0 → ev mX8_breaks 61 [some (.inr (.inr 50)), some (.inl x1), some (.inl x2), some (.inl x3), some (.inl x4), some (.inl (x5 + 1))] [] τ4 Q) ∧ (¬ r5 = 0 → Q (some (.inl 1)) τ4))))))))) :
    ev mX8_breaks 61 [some (.inr (.inr 50)), some (.inl x1), some (.inl x2), some (.inl x3), some (.inl x4), some (.inl x5)] [] σ Q := by
  refine ev_p (pc' := 63) (ls' := [some (.inr (.inr 50)), some (.inl x1), some (.inl x2), some (.inl x3), some (.inl x4), some (.inl x5)]) (st' := [.inl x5]) dX8_breaks_61 rfl ?_
  refine ev_p (pc' := 64) (ls' := [some (.inr (.inr 50)), some (.inl x1), some (.inl x2), some (.inl x3), some (.inl x4), some (.inl x5)]) (st' := [.inl x2, .inl x5]) dX8_breaks_63 rfl ?_
  refine ev_p (pc' := 65) (ls' := [some (.inr (.inr 50)), some (.inl x1), some (.inl x2), some (.inl x3), some (.inl x4), some (.inl x5)]) (st' := [.inl x3, .inl x2, .inl x5]) dX8_breaks_64 rfl ?_
  refine ev_p (pc' := 66) (ls' := [some (.inr (.inr 50)), some (.inl x1), some (.inl x2), some (.inl x3), some (.inl x4), some (.inl x5)]) (st' := [.inl (x2 * x3), .inl x5]) dX8_breaks_65 rfl ?_
  refine ev_p (pc' := 68) (ls' := [some (.inr (.inr 50)), some (.inl x1), some (.inl x2), some (.inl x3), some (.inl x4), some (.inl x5)]) (st' := [.inl x4, .inl (x2 * x3), .inl x5]) dX8_breaks_66 rfl ?_
  refine ev_p (pc' := 69) (ls' := [some (.inr (.inr 50)), some (.inl x1), some (.inl x2), some (.inl x3), some (.inl x4), some (.inl x5)]) (st' := [.inl ((x2 * x3) * x4), .inl x5]) dX8_breaks_68 rfl ?_
  refine ev_ic_ge (tgt := 125) (pc' := 72) dX8_breaks_69 (by decide) rfl (fun h1 => ?_) (fun h1 => ?_)
  · have k := k.1 h1
    refine ev_cst (v := 0) (pc' := 126) dX8_breaks_125 (by decide) rfl ?_
    exact ev_retZ dX8_breaks_126 rfl rfl k
  · have k := k.2 h1
    refine ev_p (pc' := 73) (ls' := [some (.inr (.inr 50)), some (.inl x1), some (.inl x2), some (.inl x3), some (.inl x4), some (.inl x5)]) (st' := [.inr (.inr 50)]) dX8_breaks_72 rfl ?_
    refine ev_getA (pc' := 76) (z := 59) dX8_breaks_73 rfl rfl rfl rfl ?_
    refine ev_cst (v := 0) (pc' := 77) dX8_breaks_76 (by decide) rfl ?_
    refine ev_p (pc' := 79) (ls' := [some (.inr (.inr 50)), some (.inl x1), some (.inl x2), some (.inl x3), some (.inl x4), some (.inl x5)]) (st' := [.inl x5, .inl 0, .inr (.inr 59)]) dX8_breaks_77 rfl ?_
    refine ev_p (pc' := 80) (ls' := [some (.inr (.inr 50)), some (.inl x1), some (.inl x2), some (.inl x3), some (.inl x4), some (.inl x5)]) (st' := [.inl x3, .inl x5, .inl 0, .inr (.inr 59)]) dX8_breaks_79 rfl ?_
    refine ev_p (pc' := 82) (ls' := [some (.inr (.inr 50)), some (.inl x1), some (.inl x2), some (.inl x3), some (.inl x4), some (.inl x5)]) (st' := [.inl x4, .inl x3, .inl x5, .inl 0, .inr (.inr 59)]) dX8_breaks_80 rfl ?_
    refine ev_p (pc' := 83) (ls' := [some (.inr (.inr 50)), some (.inl x1), some (.inl x2), some (.inl x3), some (.inl x4), some (.inl x5)]) (st' := [.inl (x3 * x4), .inl x5, .inl 0, .inr (.inr 59)]) dX8_breaks_82 rfl ?_
    refine ev_div (pc' := 84) dX8_breaks_83 k.1 rfl ?_
    have k := k.2
    refine ev_stor (pc' := 85) (z := (x5 / (x3 * x4))) rfl dX8_breaks_84 rfl rfl k.1 rfl rfl ?_
    have k := k.2
    obtain ⟨τ1, hτ1⟩ : ∃ z : ab_M, z = ab_upd σ 59 (0 : Int32).toNatClampNeg (x5 / (x3 * x4)) := ⟨_, rfl⟩
    rw [← hτ1]
    have k := k τ1 hτ1
    refine ev_p (pc' := 86) (ls' := [some (.inr (.inr 50)), some (.inl x1), some (.inl x2), some (.inl x3), some (.inl x4), some (.inl x5)]) (st' := [.inr (.inr 50)]) dX8_breaks_85 rfl ?_
    refine ev_getA (pc' := 89) (z := 59) dX8_breaks_86 rfl rfl rfl rfl ?_
    refine ev_cst (v := 1) (pc' := 90) dX8_breaks_89 (by decide) rfl ?_
    refine ev_p (pc' := 92) (ls' := [some (.inr (.inr 50)), some (.inl x1), some (.inl x2), some (.inl x3), some (.inl x4), some (.inl x5)]) (st' := [.inl x5, .inl 1, .inr (.inr 59)]) dX8_breaks_90 rfl ?_
    refine ev_p (pc' := 94) (ls' := [some (.inr (.inr 50)), some (.inl x1), some (.inl x2), some (.inl x3), some (.inl x4), some (.inl x5)]) (st' := [.inl x4, .inl x5, .inl 1, .inr (.inr 59)]) dX8_breaks_92 rfl ?_
    refine ev_div (pc' := 95) dX8_breaks_94 k.1 rfl ?_
    have k := k.2
    refine ev_p (pc' := 96) (ls' := [some (.inr (.inr 50)), some (.inl x1), some (.inl x2), some (.inl x3), some (.inl x4), some (.inl x5)]) (st' := [.inl x3, .inl (x5 / x4), .inl 1, .inr (.inr 59)]) dX8_breaks_95 rfl ?_
    refine ev_divR (pc' := 97) dX8_breaks_96 k.1 rfl ?_
    have k := k.2
    refine ev_stor (pc' := 98) (z := ((x5 / x4) - (x5 / x4) / x3 * x3)) rfl dX8_breaks_97 rfl rfl k.1 rfl rfl ?_
    have k := k.2
    obtain ⟨τ2, hτ2⟩ : ∃ z : ab_M, z = ab_upd τ1 59 (1 : Int32).toNatClampNeg ((x5 / x4) - (x5 / x4) / x3 * x3) := ⟨_, rfl⟩
    rw [← hτ2]
    have k := k τ2 hτ2
    refine ev_p (pc' := 99) (ls' := [some (.inr (.inr 50)), some (.inl x1), some (.inl x2), some (.inl x3), some (.inl x4), some (.inl x5)]) (st' := [.inr (.inr 50)]) dX8_breaks_98 rfl ?_
    refine ev_getA (pc' := 102) (z := 59) dX8_breaks_99 rfl rfl rfl rfl ?_
    refine ev_cst (v := 2) (pc' := 103) dX8_breaks_102 (by decide) rfl ?_
    refine ev_p (pc' := 105) (ls' := [some (.inr (.inr 50)), some (.inl x1), some (.inl x2), some (.inl x3), some (.inl x4), some (.inl x5)]) (st' := [.inl x5, .inl 2, .inr (.inr 59)]) dX8_breaks_103 rfl ?_
    refine ev_p (pc' := 107) (ls' := [some (.inr (.inr 50)), some (.inl x1), some (.inl x2), some (.inl x3), some (.inl x4), some (.inl x5)]) (st' := [.inl x4, .inl x5, .inl 2, .inr (.inr 59)]) dX8_breaks_105 rfl ?_
    refine ev_divR (pc' := 108) dX8_breaks_107 k.1 rfl ?_
    have k := k.2
    refine ev_stor (pc' := 109) (z := (x5 - x5 / x4 * x4)) rfl dX8_breaks_108 rfl rfl k.1 rfl rfl ?_
    have k := k.2
    obtain ⟨τ3, hτ3⟩ : ∃ z : ab_M, z = ab_upd τ2 59 (2 : Int32).toNatClampNeg (x5 - x5 / x4 * x4) := ⟨_, rfl⟩
    rw [← hτ3]
    have k := k τ3 hτ3
    refine ev_p (pc' := 110) (ls' := [some (.inr (.inr 50)), some (.inl x1), some (.inl x2), some (.inl x3), some (.inl x4), some (.inl x5)]) (st' := [.inr (.inr 50)]) dX8_breaks_109 rfl ?_
    refine ev_p (pc' := 111) (ls' := [some (.inr (.inr 50)), some (.inl x1), some (.inl x2), some (.inl x3), some (.inl x4), some (.inl x5)]) (st' := [.inl x1, .inr (.inr 50)]) dX8_breaks_110 rfl ?_
    refine ev_call (y := 100) (as := [.inr (.inr 50), .inl x1]) (r := []) (M' := mX8_isBroken) (pc' := 114) dX8_breaks_111 rfl rfl ⟨rfl, rfl⟩ rfl k rfl (fun v τ4 hq => ?_)
    obtain ⟨r5, hv, k⟩ := hq
    rw [hv]
    change ev mX8_breaks 114 [some (.inr (.inr 50)), some (.inl x1), some (.inl x2), some (.inl x3), some (.inl x4), some (.inl x5)] [.inl r5] τ4 _
    refine ev_if_eq (tgt := 119) (pc' := 117) dX8_breaks_114 (by decide) rfl (fun h2 => ?_) (fun h2 => ?_)
    · have k := k.1 h2
      refine ev_p (pc' := 122) (ls' := [some (.inr (.inr 50)), some (.inl x1), some (.inl x2), some (.inl x3), some (.inl x4), some (.inl (x5 + 1))]) (st' := []) dX8_breaks_119 rfl ?_
      refine ev_go (tgt := 61) dX8_breaks_122 (by decide) ?_
      exact k
    · have k := k.2 h2
      refine ev_cst (v := 1) (pc' := 118) dX8_breaks_117 (by decide) rfl ?_
      exact ev_retZ dX8_breaks_118 rfl rfl k

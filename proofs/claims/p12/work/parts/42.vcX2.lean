theorem dX2_isFull_0 : decode (me_b mX2_isFull) 0 = .ok (.aload_n 0, 1) := by decide +kernel
theorem dX2_isFull_1 : decode (me_b mX2_isFull) 1 = .ok (.getfield 18, 3) := by decide +kernel
theorem dX2_isFull_4 : decode (me_b mX2_isFull) 4 = .ok (.bipush 8, 2) := by decide +kernel
theorem dX2_isFull_6 : decode (me_b mX2_isFull) 6 = .ok (.if_icmp .lt 7, 3) := by decide +kernel
theorem dX2_isFull_9 : decode (me_b mX2_isFull) 9 = .ok (.iconst 1, 1) := by decide +kernel
theorem dX2_isFull_10 : decode (me_b mX2_isFull) 10 = .ok (.goto 4, 3) := by decide +kernel
theorem dX2_isFull_13 : decode (me_b mX2_isFull) 13 = .ok (.iconst 0, 1) := by decide +kernel
theorem dX2_isFull_14 : decode (me_b mX2_isFull) 14 = .ok (.ireturn, 1) := by decide +kernel
theorem dX2_count_0 : decode (me_b mX2_count) 0 = .ok (.aload_n 0, 1) := by decide +kernel
theorem dX2_count_1 : decode (me_b mX2_count) 1 = .ok (.getfield 18, 3) := by decide +kernel
theorem dX2_count_4 : decode (me_b mX2_count) 4 = .ok (.ireturn, 1) := by decide +kernel
theorem dX2_at_0 : decode (me_b mX2_at) 0 = .ok (.aload_n 0, 1) := by decide +kernel
theorem dX2_at_1 : decode (me_b mX2_at) 1 = .ok (.getfield 11, 3) := by decide +kernel
theorem dX2_at_4 : decode (me_b mX2_at) 4 = .ok (.iload_n 1, 1) := by decide +kernel
theorem dX2_at_5 : decode (me_b mX2_at) 5 = .ok (.ifCond .lt 9, 3) := by decide +kernel
theorem dX2_at_8 : decode (me_b mX2_at) 8 = .ok (.iload_n 1, 1) := by decide +kernel
theorem dX2_at_9 : decode (me_b mX2_at) 9 = .ok (.bipush 8, 2) := by decide +kernel
theorem dX2_at_11 : decode (me_b mX2_at) 11 = .ok (.if_icmp .le 8, 3) := by decide +kernel
theorem dX2_at_14 : decode (me_b mX2_at) 14 = .ok (.bipush 8, 2) := by decide +kernel
theorem dX2_at_16 : decode (me_b mX2_at) 16 = .ok (.goto 4, 3) := by decide +kernel
theorem dX2_at_19 : decode (me_b mX2_at) 19 = .ok (.iload_n 1, 1) := by decide +kernel
theorem dX2_at_20 : decode (me_b mX2_at) 20 = .ok (.aaload, 1) := by decide +kernel
theorem dX2_at_21 : decode (me_b mX2_at) 21 = .ok (.areturn, 1) := by decide +kernel
theorem dX2_free_0 : decode (me_b mX2_free) 0 = .ok (.aload_n 0, 1) := by decide +kernel
theorem dX2_free_1 : decode (me_b mX2_free) 1 = .ok (.aload_n 0, 1) := by decide +kernel
theorem dX2_free_2 : decode (me_b mX2_free) 2 = .ok (.getfield 18, 3) := by decide +kernel
theorem dX2_free_5 : decode (me_b mX2_free) 5 = .ok (.invokevirtual 22, 3) := by decide +kernel
theorem dX2_free_8 : decode (me_b mX2_free) 8 = .ok (.areturn, 1) := by decide +kernel
theorem dX2_keepFree_0 : decode (me_b mX2_keepFree) 0 = .ok (.aload_n 0, 1) := by decide +kernel
theorem dX2_keepFree_1 : decode (me_b mX2_keepFree) 1 = .ok (.invokevirtual 26, 3) := by decide +kernel
theorem dX2_keepFree_4 : decode (me_b mX2_keepFree) 4 = .ok (.ifCond .ne 13, 3) := by decide +kernel
theorem dX2_keepFree_7 : decode (me_b mX2_keepFree) 7 = .ok (.aload_n 0, 1) := by decide +kernel
theorem dX2_keepFree_8 : decode (me_b mX2_keepFree) 8 = .ok (.dup, 1) := by decide +kernel
theorem dX2_keepFree_9 : decode (me_b mX2_keepFree) 9 = .ok (.getfield 18, 3) := by decide +kernel
theorem dX2_keepFree_12 : decode (me_b mX2_keepFree) 12 = .ok (.iconst 1, 1) := by decide +kernel
theorem dX2_keepFree_13 : decode (me_b mX2_keepFree) 13 = .ok (.iadd, 1) := by decide +kernel
theorem dX2_keepFree_14 : decode (me_b mX2_keepFree) 14 = .ok (.putfield 18, 3) := by decide +kernel
theorem dX2_keepFree_17 : decode (me_b mX2_keepFree) 17 = .ok (.aload_n 0, 1) := by decide +kernel
theorem dX2_keepFree_18 : decode (me_b mX2_keepFree) 18 = .ok (.getfield 18, 3) := by decide +kernel
theorem dX2_keepFree_21 : decode (me_b mX2_keepFree) 21 = .ok (.ireturn, 1) := by decide +kernel
theorem dX2_forgetLast_0 : decode (me_b mX2_forgetLast) 0 = .ok (.aload_n 0, 1) := by decide +kernel
theorem dX2_forgetLast_1 : decode (me_b mX2_forgetLast) 1 = .ok (.getfield 18, 3) := by decide +kernel
theorem dX2_forgetLast_4 : decode (me_b mX2_forgetLast) 4 = .ok (.ifCond .le 13, 3) := by decide +kernel
theorem dX2_forgetLast_7 : decode (me_b mX2_forgetLast) 7 = .ok (.aload_n 0, 1) := by decide +kernel
theorem dX2_forgetLast_8 : decode (me_b mX2_forgetLast) 8 = .ok (.dup, 1) := by decide +kernel
theorem dX2_forgetLast_9 : decode (me_b mX2_forgetLast) 9 = .ok (.getfield 18, 3) := by decide +kernel
theorem dX2_forgetLast_12 : decode (me_b mX2_forgetLast) 12 = .ok (.iconst 1, 1) := by decide +kernel
theorem dX2_forgetLast_13 : decode (me_b mX2_forgetLast) 13 = .ok (.isub, 1) := by decide +kernel
theorem dX2_forgetLast_14 : decode (me_b mX2_forgetLast) 14 = .ok (.putfield 18, 3) := by decide +kernel
theorem dX2_forgetLast_17 : decode (me_b mX2_forgetLast) 17 = .ok (.aload_n 0, 1) := by decide +kernel
theorem dX2_forgetLast_18 : decode (me_b mX2_forgetLast) 18 = .ok (.getfield 18, 3) := by decide +kernel
theorem dX2_forgetLast_21 : decode (me_b mX2_forgetLast) 21 = .ok (.ireturn, 1) := by decide +kernel
theorem dX2_forgetAll_0 : decode (me_b mX2_forgetAll) 0 = .ok (.aload_n 0, 1) := by decide +kernel
theorem dX2_forgetAll_1 : decode (me_b mX2_forgetAll) 1 = .ok (.iconst 0, 1) := by decide +kernel
theorem dX2_forgetAll_2 : decode (me_b mX2_forgetAll) 2 = .ok (.putfield 18, 3) := by decide +kernel
theorem dX2_forgetAll_5 : decode (me_b mX2_forgetAll) 5 = .ok (.return_, 1) := by decide +kernel
set_option maxRecDepth 20000 in
theorem s_X2_forgetAll_0 {σ : ab_M} {Q : Option ab_V → ab_M → Prop} 
    (k : Q none (ab_upd σ 5 1 0)) :
    ev mX2_forgetAll 0 [some (.inr (.inr 5))] [] σ Q := by
  refine ev_p (pc' := 1) (ls' := [some (.inr (.inr 5))]) (st' := [.inr (.inr 5)]) dX2_forgetAll_0 rfl ?_
  refine ev_cst (v := 0) (pc' := 2) dX2_forgetAll_1 (by decide) rfl ?_
  refine ev_putI (pc' := 5) dX2_forgetAll_2 rfl rfl rfl rfl rfl rfl ?_
  exact ev_ret dX2_forgetAll_5 rfl k
set_option maxRecDepth 20000 in
theorem s_X2_free_0 {σ : ab_M} {Q : Option ab_V → ab_M → Prop} 
    (k : evm mX2_at [.inr (.inr 5), .inl (σ 5 1)] σ (fun v τ1 => ∃ q2 : Nat, v = some (.inr (.inr q2)) ∧ Q (some (.inr (.inr q2))) τ1)) :
    ev mX2_free 0 [some (.inr (.inr 5))] [] σ Q := by
  refine ev_p (pc' := 1) (ls' := [some (.inr (.inr 5))]) (st' := [.inr (.inr 5)]) dX2_free_0 rfl ?_
  refine ev_p (pc' := 2) (ls' := [some (.inr (.inr 5))]) (st' := [.inr (.inr 5), .inr (.inr 5)]) dX2_free_1 rfl ?_
  refine ev_getI (pc' := 5) dX2_free_2 rfl rfl rfl rfl ?_
  refine ev_call (y := 22) (as := [.inr (.inr 5), .inl (σ 5 1)]) (r := []) (M' := mX2_at) (pc' := 8) dX2_free_5 rfl rfl ⟨rfl, rfl⟩ rfl k rfl (fun v τ1 hq => ?_)
  obtain ⟨q2, hv, k⟩ := hq
  rw [hv]
  change ev mX2_free 8 [some (.inr (.inr 5))] [.inr (.inr q2)] τ1 _
  exact ev_ret dX2_free_8 rfl k
set_option maxRecDepth 20000 in
theorem s_X2_at_0 {σ : ab_M} {Q : Option ab_V → ab_M → Prop} {x1 : Int32}
    (k : ((x1 < 0 → ab_in 8 9 = true ∧ Q (some (.inr (.inr (7 + 3 * (8 : Int32).toNatClampNeg)))) σ) ∧ (¬ x1 < 0 → ((x1 ≤ 8 → ab_in x1 9 = true ∧ Q (some (.inr (.inr (7 + 3 * x1.toNatClampNeg)))) σ) ∧ (¬ x1 ≤ 8 → ab_in 8 9 = true ∧ Q (some (.inr (.inr (7 + 3 * (8 : Int32).toNatClampNeg)))) σ))))) :
    ev mX2_at 0 [some (.inr (.inr 5)), some (.inl x1)] [] σ Q := by
  refine ev_p (pc' := 1) (ls' := [some (.inr (.inr 5)), some (.inl x1)]) (st' := [.inr (.inr 5)]) dX2_at_0 rfl ?_
  refine ev_getA (pc' := 4) (z := 6) dX2_at_1 rfl rfl rfl rfl ?_
  refine ev_p (pc' := 5) (ls' := [some (.inr (.inr 5)), some (.inl x1)]) (st' := [.inl x1, .inr (.inr 6)]) dX2_at_4 rfl ?_
  refine ev_if_lt (tgt := 14) (pc' := 8) dX2_at_5 (by decide) rfl (fun h1 => ?_) (fun h1 => ?_)
  · have k := k.1 h1
    refine ev_cst (v := 8) (pc' := 16) dX2_at_14 (by decide) rfl ?_
    refine ev_go (tgt := 20) dX2_at_16 (by decide) ?_
    refine ev_aald (pc' := 21) dX2_at_20 k.1 rfl ?_
    have k := k.2
    exact ev_ret dX2_at_21 rfl k
  · have k := k.2 h1
    refine ev_p (pc' := 9) (ls' := [some (.inr (.inr 5)), some (.inl x1)]) (st' := [.inl x1, .inr (.inr 6)]) dX2_at_8 rfl ?_
    refine ev_cst (v := 8) (pc' := 11) dX2_at_9 (by decide) rfl ?_
    refine ev_ic_le (tgt := 19) (pc' := 14) dX2_at_11 (by decide) rfl (fun h2 => ?_) (fun h2 => ?_)
    · have k := k.1 h2
      refine ev_p (pc' := 20) (ls' := [some (.inr (.inr 5)), some (.inl x1)]) (st' := [.inl x1, .inr (.inr 6)]) dX2_at_19 rfl ?_
      refine ev_aald (pc' := 21) dX2_at_20 k.1 rfl ?_
      have k := k.2
      exact ev_ret dX2_at_21 rfl k
    · have k := k.2 h2
      refine ev_cst (v := 8) (pc' := 16) dX2_at_14 (by decide) rfl ?_
      refine ev_go (tgt := 20) dX2_at_16 (by decide) ?_
      refine ev_aald (pc' := 21) dX2_at_20 k.1 rfl ?_
      have k := k.2
      exact ev_ret dX2_at_21 rfl k
set_option maxRecDepth 20000 in
theorem s_X2_isFull_0 {σ : ab_M} {Q : Option ab_V → ab_M → Prop} 
    (k : (((σ 5 1) < 8 → Q (some (.inl 0)) σ) ∧ (¬ (σ 5 1) < 8 → Q (some (.inl 1)) σ))) :
    ev mX2_isFull 0 [some (.inr (.inr 5))] [] σ Q := by
  refine ev_p (pc' := 1) (ls' := [some (.inr (.inr 5))]) (st' := [.inr (.inr 5)]) dX2_isFull_0 rfl ?_
  refine ev_getI (pc' := 4) dX2_isFull_1 rfl rfl rfl rfl ?_
  refine ev_cst (v := 8) (pc' := 6) dX2_isFull_4 (by decide) rfl ?_
  refine ev_ic_lt (tgt := 13) (pc' := 9) dX2_isFull_6 (by decide) rfl (fun h1 => ?_) (fun h1 => ?_)
  · have k := k.1 h1
    refine ev_cst (v := 0) (pc' := 14) dX2_isFull_13 (by decide) rfl ?_
    exact ev_retZ dX2_isFull_14 rfl rfl k
  · have k := k.2 h1
    refine ev_cst (v := 1) (pc' := 10) dX2_isFull_9 (by decide) rfl ?_
    refine ev_go (tgt := 14) dX2_isFull_10 (by decide) ?_
    exact ev_retZ dX2_isFull_14 rfl rfl k
set_option maxRecDepth 20000 in
theorem s_X2_keepFree_0 {σ : ab_M} {Q : Option ab_V → ab_M → Prop} 
    (k : evm mX2_isFull [.inr (.inr 5)] σ (fun v τ1 => ∃ r2 : Int32, v = some (.inl r2) ∧ ((r2 = 0 → Q (some (.inl ((ab_upd τ1 5 1 ((τ1 5 1) + 1)) 5 1))) (ab_upd τ1 5 1 ((τ1 5 1) + 1))) ∧ (¬ r2 = 0 → Q (some (.inl (τ1 5 1))) τ1)))) :
    ev mX2_keepFree 0 [some (.inr (.inr 5))] [] σ Q := by
  refine ev_p (pc' := 1) (ls' := [some (.inr (.inr 5))]) (st' := [.inr (.inr 5)]) dX2_keepFree_0 rfl ?_
  refine ev_call (y := 35) (as := [.inr (.inr 5)]) (r := []) (M' := mX2_isFull) (pc' := 4) dX2_keepFree_1 rfl rfl ⟨rfl, rfl⟩ rfl k rfl (fun v τ1 hq => ?_)
  obtain ⟨r2, hv, k⟩ := hq
  rw [hv]
  change ev mX2_keepFree 4 [some (.inr (.inr 5))] [.inl r2] τ1 _
  refine ev_if_ne (tgt := 17) (pc' := 7) dX2_keepFree_4 (by decide) rfl (fun h1 => ?_) (fun h1 => ?_)
  · have k := k.2 h1
    refine ev_p (pc' := 18) (ls' := [some (.inr (.inr 5))]) (st' := [.inr (.inr 5)]) dX2_keepFree_17 rfl ?_
    refine ev_getI (pc' := 21) dX2_keepFree_18 rfl rfl rfl rfl ?_
    exact ev_ret dX2_keepFree_21 rfl k
  · have k := k.1 h1
    refine ev_p (pc' := 8) (ls' := [some (.inr (.inr 5))]) (st' := [.inr (.inr 5)]) dX2_keepFree_7 rfl ?_
    refine ev_p (pc' := 9) (ls' := [some (.inr (.inr 5))]) (st' := [.inr (.inr 5), .inr (.inr 5)]) dX2_keepFree_8 rfl ?_
    refine ev_getI (pc' := 12) dX2_keepFree_9 rfl rfl rfl rfl ?_
    refine ev_cst (v := 1) (pc' := 13) dX2_keepFree_12 (by decide) rfl ?_
    refine ev_p (pc' := 14) (ls' := [some (.inr (.inr 5))]) (st' := [.inl ((τ1 5 1) + 1), .inr (.inr 5)]) dX2_keepFree_13 rfl ?_
    refine ev_putI (pc' := 17) dX2_keepFree_14 rfl rfl rfl rfl rfl rfl ?_
    refine ev_p (pc' := 18) (ls' := [some (.inr (.inr 5))]) (st' := [.inr (.inr 5)]) dX2_keepFree_17 rfl ?_
    refine ev_getI (pc' := 21) dX2_keepFree_18 rfl rfl rfl rfl ?_
    exact ev_ret dX2_keepFree_21 rfl k
set_option maxRecDepth 20000 in
theorem s_X2_count_0 {σ : ab_M} {Q : Option ab_V → ab_M → Prop} 
    (k : Q (some (.inl (σ 5 1))) σ) :
    ev mX2_count 0 [some (.inr (.inr 5))] [] σ Q := by
  refine ev_p (pc' := 1) (ls' := [some (.inr (.inr 5))]) (st' := [.inr (.inr 5)]) dX2_count_0 rfl ?_
  refine ev_getI (pc' := 4) dX2_count_1 rfl rfl rfl rfl ?_
  exact ev_ret dX2_count_4 rfl k
set_option maxRecDepth 20000 in
theorem s_X2_forgetLast_0 {σ : ab_M} {Q : Option ab_V → ab_M → Prop} 
    (k : (((σ 5 1) ≤ 0 → Q (some (.inl (σ 5 1))) σ) ∧ (¬ (σ 5 1) ≤ 0 → Q (some (.inl ((ab_upd σ 5 1 ((σ 5 1) - 1)) 5 1))) (ab_upd σ 5 1 ((σ 5 1) - 1))))) :
    ev mX2_forgetLast 0 [some (.inr (.inr 5))] [] σ Q := by
  refine ev_p (pc' := 1) (ls' := [some (.inr (.inr 5))]) (st' := [.inr (.inr 5)]) dX2_forgetLast_0 rfl ?_
  refine ev_getI (pc' := 4) dX2_forgetLast_1 rfl rfl rfl rfl ?_
  refine ev_if_le (tgt := 17) (pc' := 7) dX2_forgetLast_4 (by decide) rfl (fun h1 => ?_) (fun h1 => ?_)
  · have k := k.1 h1
    refine ev_p (pc' := 18) (ls' := [some (.inr (.inr 5))]) (st' := [.inr (.inr 5)]) dX2_forgetLast_17 rfl ?_
    refine ev_getI (pc' := 21) dX2_forgetLast_18 rfl rfl rfl rfl ?_
    exact ev_ret dX2_forgetLast_21 rfl k
  · have k := k.2 h1
    refine ev_p (pc' := 8) (ls' := [some (.inr (.inr 5))]) (st' := [.inr (.inr 5)]) dX2_forgetLast_7 rfl ?_
    refine ev_p (pc' := 9) (ls' := [some (.inr (.inr 5))]) (st' := [.inr (.inr 5), .inr (.inr 5)]) dX2_forgetLast_8 rfl ?_
    refine ev_getI (pc' := 12) dX2_forgetLast_9 rfl rfl rfl rfl ?_
    refine ev_cst (v := 1) (pc' := 13) dX2_forgetLast_12 (by decide) rfl ?_
    refine ev_p (pc' := 14) (ls' := [some (.inr (.inr 5))]) (st' := [.inl ((σ 5 1) - 1), .inr (.inr 5)]) dX2_forgetLast_13 rfl ?_
    refine ev_putI (pc' := 17) dX2_forgetLast_14 rfl rfl rfl rfl rfl rfl ?_
    refine ev_p (pc' := 18) (ls' := [some (.inr (.inr 5))]) (st' := [.inr (.inr 5)]) dX2_forgetLast_17 rfl ?_
    refine ev_getI (pc' := 21) dX2_forgetLast_18 rfl rfl rfl rfl ?_
    exact ev_ret dX2_forgetLast_21 rfl k

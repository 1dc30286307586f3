theorem dX5_define_0 : decode (me_b mX5_define) 0 = .ok (.iload_n 1, 1) := by decide +kernel
theorem dX5_define_1 : decode (me_b mX5_define) 1 = .ok (.ifCond .lt 16, 3) := by decide +kernel
theorem dX5_define_4 : decode (me_b mX5_define) 4 = .ok (.iload_n 1, 1) := by decide +kernel
theorem dX5_define_5 : decode (me_b mX5_define) 5 = .ok (.bipush 8, 2) := by decide +kernel
theorem dX5_define_7 : decode (me_b mX5_define) 7 = .ok (.if_icmp .ge 10, 3) := by decide +kernel
theorem dX5_define_10 : decode (me_b mX5_define) 10 = .ok (.aload_n 0, 1) := by decide +kernel
theorem dX5_define_11 : decode (me_b mX5_define) 11 = .ok (.getfield 9, 3) := by decide +kernel
theorem dX5_define_14 : decode (me_b mX5_define) 14 = .ok (.iload_n 1, 1) := by decide +kernel
theorem dX5_define_15 : decode (me_b mX5_define) 15 = .ok (.iload_n 2, 1) := by decide +kernel
theorem dX5_define_16 : decode (me_b mX5_define) 16 = .ok (.iastore, 1) := by decide +kernel
theorem dX5_define_17 : decode (me_b mX5_define) 17 = .ok (.return_, 1) := by decide +kernel
theorem dX5_arityOf_0 : decode (me_b mX5_arityOf) 0 = .ok (.iload_n 1, 1) := by decide +kernel
theorem dX5_arityOf_1 : decode (me_b mX5_arityOf) 1 = .ok (.ifCond .lt 9, 3) := by decide +kernel
theorem dX5_arityOf_4 : decode (me_b mX5_arityOf) 4 = .ok (.iload_n 1, 1) := by decide +kernel
theorem dX5_arityOf_5 : decode (me_b mX5_arityOf) 5 = .ok (.bipush 8, 2) := by decide +kernel
theorem dX5_arityOf_7 : decode (me_b mX5_arityOf) 7 = .ok (.if_icmp .lt 7, 3) := by decide +kernel
theorem dX5_arityOf_10 : decode (me_b mX5_arityOf) 10 = .ok (.iconst (-1), 1) := by decide +kernel
theorem dX5_arityOf_11 : decode (me_b mX5_arityOf) 11 = .ok (.goto 9, 3) := by decide +kernel
theorem dX5_arityOf_14 : decode (me_b mX5_arityOf) 14 = .ok (.aload_n 0, 1) := by decide +kernel
theorem dX5_arityOf_15 : decode (me_b mX5_arityOf) 15 = .ok (.getfield 9, 3) := by decide +kernel
theorem dX5_arityOf_18 : decode (me_b mX5_arityOf) 18 = .ok (.iload_n 1, 1) := by decide +kernel
theorem dX5_arityOf_19 : decode (me_b mX5_arityOf) 19 = .ok (.iaload, 1) := by decide +kernel
theorem dX5_arityOf_20 : decode (me_b mX5_arityOf) 20 = .ok (.ireturn, 1) := by decide +kernel
set_option maxRecDepth 20000 in
theorem s_X5_define_0 {σ : ab_M} {Q : Option ab_V → ab_M → Prop} {x1 : Int32} {x2 : Int32}
    (k : ((x1 < 0 → Q none σ) ∧ (¬ x1 < 0 → ((8 ≤ x1 → Q none σ) ∧ (¬ 8 ≤ x1 → ab_in x1 8 = true ∧ Q none (ab_upd σ 2 x1.toNatClampNeg x2)))))) :
    ev mX5_define 0 [some (.inr (.inr 1)), some (.inl x1), some (.inl x2)] [] σ Q := by
  refine ev_p (pc' := 1) (ls' := [some (.inr (.inr 1)), some (.inl x1), some (.inl x2)]) (st' := [.inl x1]) dX5_define_0 rfl ?_
  refine ev_if_lt (tgt := 17) (pc' := 4) dX5_define_1 (by decide) rfl (fun h1 => ?_) (fun h1 => ?_)
  · have k := k.1 h1
    exact ev_ret dX5_define_17 rfl k
  · have k := k.2 h1
    refine ev_p (pc' := 5) (ls' := [some (.inr (.inr 1)), some (.inl x1), some (.inl x2)]) (st' := [.inl x1]) dX5_define_4 rfl ?_
    refine ev_cst (v := 8) (pc' := 7) dX5_define_5 (by decide) rfl ?_
    refine ev_ic_ge (tgt := 17) (pc' := 10) dX5_define_7 (by decide) rfl (fun h2 => ?_) (fun h2 => ?_)
    · have k := k.1 h2
      exact ev_ret dX5_define_17 rfl k
    · have k := k.2 h2
      refine ev_p (pc' := 11) (ls' := [some (.inr (.inr 1)), some (.inl x1), some (.inl x2)]) (st' := [.inr (.inr 1)]) dX5_define_10 rfl ?_
      refine ev_getA (pc' := 14) (z := 2) dX5_define_11 rfl rfl rfl rfl ?_
      refine ev_p (pc' := 15) (ls' := [some (.inr (.inr 1)), some (.inl x1), some (.inl x2)]) (st' := [.inl x1, .inr (.inr 2)]) dX5_define_14 rfl ?_
      refine ev_p (pc' := 16) (ls' := [some (.inr (.inr 1)), some (.inl x1), some (.inl x2)]) (st' := [.inl x2, .inl x1, .inr (.inr 2)]) dX5_define_15 rfl ?_
      refine ev_stor (pc' := 17) (z := x2) rfl dX5_define_16 rfl rfl k.1 rfl rfl ?_
      have k := k.2
      exact ev_ret dX5_define_17 rfl k
set_option maxRecDepth 20000 in
theorem s_X5_arityOf_0 {σ : ab_M} {Q : Option ab_V → ab_M → Prop} {x1 : Int32}
    (k : ((x1 < 0 → Q (some (.inl (-1))) σ) ∧ (¬ x1 < 0 → ((x1 < 8 → ab_in x1 8 = true ∧ Q (some (.inl (σ 2 x1.toNatClampNeg))) σ) ∧ (¬ x1 < 8 → Q (some (.inl (-1))) σ))))) :
    ev mX5_arityOf 0 [some (.inr (.inr 1)), some (.inl x1)] [] σ Q := by
  refine ev_p (pc' := 1) (ls' := [some (.inr (.inr 1)), some (.inl x1)]) (st' := [.inl x1]) dX5_arityOf_0 rfl ?_
  refine ev_if_lt (tgt := 10) (pc' := 4) dX5_arityOf_1 (by decide) rfl (fun h1 => ?_) (fun h1 => ?_)
  · have k := k.1 h1
    refine ev_cst (v := (-1)) (pc' := 11) dX5_arityOf_10 (by decide) rfl ?_
    refine ev_go (tgt := 20) dX5_arityOf_11 (by decide) ?_
    exact ev_ret dX5_arityOf_20 rfl k
  · have k := k.2 h1
    refine ev_p (pc' := 5) (ls' := [some (.inr (.inr 1)), some (.inl x1)]) (st' := [.inl x1]) dX5_arityOf_4 rfl ?_
    refine ev_cst (v := 8) (pc' := 7) dX5_arityOf_5 (by decide) rfl ?_
    refine ev_ic_lt (tgt := 14) (pc' := 10) dX5_arityOf_7 (by decide) rfl (fun h2 => ?_) (fun h2 => ?_)
    · have k := k.1 h2
      refine ev_p (pc' := 15) (ls' := [some (.inr (.inr 1)), some (.inl x1)]) (st' := [.inr (.inr 1)]) dX5_arityOf_14 rfl ?_
      refine ev_getA (pc' := 18) (z := 2) dX5_arityOf_15 rfl rfl rfl rfl ?_
      refine ev_p (pc' := 19) (ls' := [some (.inr (.inr 1)), some (.inl x1)]) (st' := [.inl x1, .inr (.inr 2)]) dX5_arityOf_18 rfl ?_
      refine ev_load (pc' := 20) rfl dX5_arityOf_19 rfl rfl k.1 rfl ?_
      have k := k.2
      exact ev_ret dX5_arityOf_20 rfl k
    · have k := k.2 h2
      refine ev_cst (v := (-1)) (pc' := 11) dX5_arityOf_10 (by decide) rfl ?_
      refine ev_go (tgt := 20) dX5_arityOf_11 (by decide) ?_
      exact ev_ret dX5_arityOf_20 rfl k

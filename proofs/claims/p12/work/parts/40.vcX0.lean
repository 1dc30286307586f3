theorem dX0_hasRoomFor_0 : decode (me_b mX0_hasRoomFor) 0 = .ok (.aload_n 0, 1) := by decide +kernel
theorem dX0_hasRoomFor_1 : decode (me_b mX0_hasRoomFor) 1 = .ok (.getfield 15, 3) := by decide +kernel
theorem dX0_hasRoomFor_4 : decode (me_b mX0_hasRoomFor) 4 = .ok (.iload_n 1, 1) := by decide +kernel
theorem dX0_hasRoomFor_5 : decode (me_b mX0_hasRoomFor) 5 = .ok (.iadd, 1) := by decide +kernel
theorem dX0_hasRoomFor_6 : decode (me_b mX0_hasRoomFor) 6 = .ok (.bipush 60, 2) := by decide +kernel
theorem dX0_hasRoomFor_8 : decode (me_b mX0_hasRoomFor) 8 = .ok (.if_icmp .gt 7, 3) := by decide +kernel
theorem dX0_hasRoomFor_11 : decode (me_b mX0_hasRoomFor) 11 = .ok (.iconst 1, 1) := by decide +kernel
theorem dX0_hasRoomFor_12 : decode (me_b mX0_hasRoomFor) 12 = .ok (.goto 4, 3) := by decide +kernel
theorem dX0_hasRoomFor_15 : decode (me_b mX0_hasRoomFor) 15 = .ok (.iconst 0, 1) := by decide +kernel
theorem dX0_hasRoomFor_16 : decode (me_b mX0_hasRoomFor) 16 = .ok (.ireturn, 1) := by decide +kernel
theorem dX0_append_0 : decode (me_b mX0_append) 0 = .ok (.aload_n 0, 1) := by decide +kernel
theorem dX0_append_1 : decode (me_b mX0_append) 1 = .ok (.getfield 15, 3) := by decide +kernel
theorem dX0_append_4 : decode (me_b mX0_append) 4 = .ok (.bipush 60, 2) := by decide +kernel
theorem dX0_append_6 : decode (me_b mX0_append) 6 = .ok (.if_icmp .ge 23, 3) := by decide +kernel
theorem dX0_append_9 : decode (me_b mX0_append) 9 = .ok (.aload_n 0, 1) := by decide +kernel
theorem dX0_append_10 : decode (me_b mX0_append) 10 = .ok (.getfield 9, 3) := by decide +kernel
theorem dX0_append_13 : decode (me_b mX0_append) 13 = .ok (.aload_n 0, 1) := by decide +kernel
theorem dX0_append_14 : decode (me_b mX0_append) 14 = .ok (.getfield 15, 3) := by decide +kernel
theorem dX0_append_17 : decode (me_b mX0_append) 17 = .ok (.iload_n 1, 1) := by decide +kernel
theorem dX0_append_18 : decode (me_b mX0_append) 18 = .ok (.castore, 1) := by decide +kernel
theorem dX0_append_19 : decode (me_b mX0_append) 19 = .ok (.aload_n 0, 1) := by decide +kernel
theorem dX0_append_20 : decode (me_b mX0_append) 20 = .ok (.dup, 1) := by decide +kernel
theorem dX0_append_21 : decode (me_b mX0_append) 21 = .ok (.getfield 15, 3) := by decide +kernel
theorem dX0_append_24 : decode (me_b mX0_append) 24 = .ok (.iconst 1, 1) := by decide +kernel
theorem dX0_append_25 : decode (me_b mX0_append) 25 = .ok (.iadd, 1) := by decide +kernel
theorem dX0_append_26 : decode (me_b mX0_append) 26 = .ok (.putfield 15, 3) := by decide +kernel
theorem dX0_append_29 : decode (me_b mX0_append) 29 = .ok (.return_, 1) := by decide +kernel
theorem dX0_length_0 : decode (me_b mX0_length) 0 = .ok (.aload_n 0, 1) := by decide +kernel
theorem dX0_length_1 : decode (me_b mX0_length) 1 = .ok (.getfield 15, 3) := by decide +kernel
theorem dX0_length_4 : decode (me_b mX0_length) 4 = .ok (.ireturn, 1) := by decide +kernel
theorem dX0_at_0 : decode (me_b mX0_at) 0 = .ok (.iload_n 1, 1) := by decide +kernel
theorem dX0_at_1 : decode (me_b mX0_at) 1 = .ok (.ifCond .lt 11, 3) := by decide +kernel
theorem dX0_at_4 : decode (me_b mX0_at) 4 = .ok (.iload_n 1, 1) := by decide +kernel
theorem dX0_at_5 : decode (me_b mX0_at) 5 = .ok (.aload_n 0, 1) := by decide +kernel
theorem dX0_at_6 : decode (me_b mX0_at) 6 = .ok (.getfield 15, 3) := by decide +kernel
theorem dX0_at_9 : decode (me_b mX0_at) 9 = .ok (.if_icmp .lt 8, 3) := by decide +kernel
theorem dX0_at_12 : decode (me_b mX0_at) 12 = .ok (.bipush 32, 2) := by decide +kernel
theorem dX0_at_14 : decode (me_b mX0_at) 14 = .ok (.goto 9, 3) := by decide +kernel
theorem dX0_at_17 : decode (me_b mX0_at) 17 = .ok (.aload_n 0, 1) := by decide +kernel
theorem dX0_at_18 : decode (me_b mX0_at) 18 = .ok (.getfield 9, 3) := by decide +kernel
theorem dX0_at_21 : decode (me_b mX0_at) 21 = .ok (.iload_n 1, 1) := by decide +kernel
theorem dX0_at_22 : decode (me_b mX0_at) 22 = .ok (.caload, 1) := by decide +kernel
theorem dX0_at_23 : decode (me_b mX0_at) 23 = .ok (.ireturn, 1) := by decide +kernel
theorem dX0_empty_0 : decode (me_b mX0_empty) 0 = .ok (.aload_n 0, 1) := by decide +kernel
theorem dX0_empty_1 : decode (me_b mX0_empty) 1 = .ok (.iconst 0, 1) := by decide +kernel
theorem dX0_empty_2 : decode (me_b mX0_empty) 2 = .ok (.putfield 15, 3) := by decide +kernel
theorem dX0_empty_5 : decode (me_b mX0_empty) 5 = .ok (.return_, 1) := by decide +kernel
set_option maxRecDepth 20000 in
theorem s_X0_hasRoomFor_0 {σ : ab_M} {Q : Option ab_V → ab_M → Prop} {x1 : Int32}
    (k : ((60 < ((σ 3 1) + x1) → Q (some (.inl 0)) σ) ∧ (¬ 60 < ((σ 3 1) + x1) → Q (some (.inl 1)) σ))) :
    ev mX0_hasRoomFor 0 [some (.inr (.inr 3)), some (.inl x1)] [] σ Q := by
  refine ev_p (pc' := 1) (ls' := [some (.inr (.inr 3)), some (.inl x1)]) (st' := [.inr (.inr 3)]) dX0_hasRoomFor_0 rfl ?_
  refine ev_getI (pc' := 4) dX0_hasRoomFor_1 rfl rfl rfl rfl ?_
  refine ev_p (pc' := 5) (ls' := [some (.inr (.inr 3)), some (.inl x1)]) (st' := [.inl x1, .inl (σ 3 1)]) dX0_hasRoomFor_4 rfl ?_
  refine ev_p (pc' := 6) (ls' := [some (.inr (.inr 3)), some (.inl x1)]) (st' := [.inl ((σ 3 1) + x1)]) dX0_hasRoomFor_5 rfl ?_
  refine ev_cst (v := 60) (pc' := 8) dX0_hasRoomFor_6 (by decide) rfl ?_
  refine ev_ic_gt (tgt := 15) (pc' := 11) dX0_hasRoomFor_8 (by decide) rfl (fun h1 => ?_) (fun h1 => ?_)
  · have k := k.1 h1
    refine ev_cst (v := 0) (pc' := 16) dX0_hasRoomFor_15 (by decide) rfl ?_
    exact ev_retZ dX0_hasRoomFor_16 rfl rfl k
  · have k := k.2 h1
    refine ev_cst (v := 1) (pc' := 12) dX0_hasRoomFor_11 (by decide) rfl ?_
    refine ev_go (tgt := 16) dX0_hasRoomFor_12 (by decide) ?_
    exact ev_retZ dX0_hasRoomFor_16 rfl rfl k
set_option maxRecDepth 20000 in
theorem s_X0_append_0 {σ : ab_M} {Q : Option ab_V → ab_M → Prop} {x1 : Int32}
    (k : ((60 ≤ (σ 3 1) → Q none σ) ∧ (¬ 60 ≤ (σ 3 1) → ab_in (σ 3 1) 60 = true ∧ Q none (ab_upd (ab_upd σ 4 (σ 3 1).toNatClampNeg (vp_nar .char x1)) 3 1 (((ab_upd σ 4 (σ 3 1).toNatClampNeg (vp_nar .char x1)) 3 1) + 1))))) :
    ev mX0_append 0 [some (.inr (.inr 3)), some (.inl x1)] [] σ Q := by
  refine ev_p (pc' := 1) (ls' := [some (.inr (.inr 3)), some (.inl x1)]) (st' := [.inr (.inr 3)]) dX0_append_0 rfl ?_
  refine ev_getI (pc' := 4) dX0_append_1 rfl rfl rfl rfl ?_
  refine ev_cst (v := 60) (pc' := 6) dX0_append_4 (by decide) rfl ?_
  refine ev_ic_ge (tgt := 29) (pc' := 9) dX0_append_6 (by decide) rfl (fun h1 => ?_) (fun h1 => ?_)
  · have k := k.1 h1
    exact ev_ret dX0_append_29 rfl k
  · have k := k.2 h1
    refine ev_p (pc' := 10) (ls' := [some (.inr (.inr 3)), some (.inl x1)]) (st' := [.inr (.inr 3)]) dX0_append_9 rfl ?_
    refine ev_getA (pc' := 13) (z := 4) dX0_append_10 rfl rfl rfl rfl ?_
    refine ev_p (pc' := 14) (ls' := [some (.inr (.inr 3)), some (.inl x1)]) (st' := [.inr (.inr 3), .inr (.inr 4)]) dX0_append_13 rfl ?_
    refine ev_getI (pc' := 17) dX0_append_14 rfl rfl rfl rfl ?_
    refine ev_p (pc' := 18) (ls' := [some (.inr (.inr 3)), some (.inl x1)]) (st' := [.inl x1, .inl (σ 3 1), .inr (.inr 4)]) dX0_append_17 rfl ?_
    refine ev_stor (pc' := 19) (z := (vp_nar .char x1)) rfl dX0_append_18 rfl rfl k.1 rfl rfl ?_
    have k := k.2
    refine ev_p (pc' := 20) (ls' := [some (.inr (.inr 3)), some (.inl x1)]) (st' := [.inr (.inr 3)]) dX0_append_19 rfl ?_
    refine ev_p (pc' := 21) (ls' := [some (.inr (.inr 3)), some (.inl x1)]) (st' := [.inr (.inr 3), .inr (.inr 3)]) dX0_append_20 rfl ?_
    refine ev_getI (pc' := 24) dX0_append_21 rfl rfl rfl rfl ?_
    refine ev_cst (v := 1) (pc' := 25) dX0_append_24 (by decide) rfl ?_
    refine ev_p (pc' := 26) (ls' := [some (.inr (.inr 3)), some (.inl x1)]) (st' := [.inl (((ab_upd σ 4 (σ 3 1).toNatClampNeg (vp_nar .char x1)) 3 1) + 1), .inr (.inr 3)]) dX0_append_25 rfl ?_
    refine ev_putI (pc' := 29) dX0_append_26 rfl rfl rfl rfl rfl rfl ?_
    exact ev_ret dX0_append_29 rfl k
set_option maxRecDepth 20000 in
theorem s_X0_length_0 {σ : ab_M} {Q : Option ab_V → ab_M → Prop} 
    (k : Q (some (.inl (σ 3 1))) σ) :
    ev mX0_length 0 [some (.inr (.inr 3))] [] σ Q := by
  refine ev_p (pc' := 1) (ls' := [some (.inr (.inr 3))]) (st' := [.inr (.inr 3)]) dX0_length_0 rfl ?_
  refine ev_getI (pc' := 4) dX0_length_1 rfl rfl rfl rfl ?_
  exact ev_ret dX0_length_4 rfl k
set_option maxRecDepth 20000 in
theorem s_X0_at_0 {σ : ab_M} {Q : Option ab_V → ab_M → Prop} {x1 : Int32}
    (k : ((x1 < 0 → (ab_rok .char 32 = true ∧ Q (some (.inl 32)) σ)) ∧ (¬ x1 < 0 → ((x1 < (σ 3 1) → ab_in x1 60 = true ∧ (ab_rok .char (σ 4 x1.toNatClampNeg) = true ∧ Q (some (.inl (σ 4 x1.toNatClampNeg))) σ)) ∧ (¬ x1 < (σ 3 1) → (ab_rok .char 32 = true ∧ Q (some (.inl 32)) σ)))))) :
    ev mX0_at 0 [some (.inr (.inr 3)), some (.inl x1)] [] σ Q := by
  refine ev_p (pc' := 1) (ls' := [some (.inr (.inr 3)), some (.inl x1)]) (st' := [.inl x1]) dX0_at_0 rfl ?_
  refine ev_if_lt (tgt := 12) (pc' := 4) dX0_at_1 (by decide) rfl (fun h1 => ?_) (fun h1 => ?_)
  · have k := k.1 h1
    refine ev_cst (v := 32) (pc' := 14) dX0_at_12 (by decide) rfl ?_
    refine ev_go (tgt := 23) dX0_at_14 (by decide) ?_
    exact ev_retZ dX0_at_23 rfl k.1 k.2
  · have k := k.2 h1
    refine ev_p (pc' := 5) (ls' := [some (.inr (.inr 3)), some (.inl x1)]) (st' := [.inl x1]) dX0_at_4 rfl ?_
    refine ev_p (pc' := 6) (ls' := [some (.inr (.inr 3)), some (.inl x1)]) (st' := [.inr (.inr 3), .inl x1]) dX0_at_5 rfl ?_
    refine ev_getI (pc' := 9) dX0_at_6 rfl rfl rfl rfl ?_
    refine ev_ic_lt (tgt := 17) (pc' := 12) dX0_at_9 (by decide) rfl (fun h2 => ?_) (fun h2 => ?_)
    · have k := k.1 h2
      refine ev_p (pc' := 18) (ls' := [some (.inr (.inr 3)), some (.inl x1)]) (st' := [.inr (.inr 3)]) dX0_at_17 rfl ?_
      refine ev_getA (pc' := 21) (z := 4) dX0_at_18 rfl rfl rfl rfl ?_
      refine ev_p (pc' := 22) (ls' := [some (.inr (.inr 3)), some (.inl x1)]) (st' := [.inl x1, .inr (.inr 4)]) dX0_at_21 rfl ?_
      refine ev_load (pc' := 23) rfl dX0_at_22 rfl rfl k.1 rfl ?_
      have k := k.2
      exact ev_retZ dX0_at_23 rfl k.1 k.2
    · have k := k.2 h2
      refine ev_cst (v := 32) (pc' := 14) dX0_at_12 (by decide) rfl ?_
      refine ev_go (tgt := 23) dX0_at_14 (by decide) ?_
      exact ev_retZ dX0_at_23 rfl k.1 k.2
set_option maxRecDepth 20000 in
theorem s_X0_empty_0 {σ : ab_M} {Q : Option ab_V → ab_M → Prop} 
    (k : Q none (ab_upd σ 3 1 0)) :
    ev mX0_empty 0 [some (.inr (.inr 3))] [] σ Q := by
  refine ev_p (pc' := 1) (ls' := [some (.inr (.inr 3))]) (st' := [.inr (.inr 3)]) dX0_empty_0 rfl ?_
  refine ev_cst (v := 0) (pc' := 2) dX0_empty_1 (by decide) rfl ?_
  refine ev_putI (pc' := 5) dX0_empty_2 rfl rfl rfl rfl rfl rfl ?_
  exact ev_ret dX0_empty_5 rfl k

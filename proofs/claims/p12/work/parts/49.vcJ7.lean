theorem dJ7_fill_53178_0 : decode (me_b mJ7_fill_53178) 0 = .ok (.iconst 0, 1) := by decide +kernel
theorem dJ7_fill_53178_1 : decode (me_b mJ7_fill_53178) 1 = .ok (.istore_n 2, 1) := by decide +kernel
theorem dJ7_fill_53178_2 : decode (me_b mJ7_fill_53178) 2 = .ok (.aload_n 0, 1) := by decide +kernel
theorem dJ7_fill_53178_3 : decode (me_b mJ7_fill_53178) 3 = .ok (.arraylength, 1) := by decide +kernel
theorem dJ7_fill_53178_4 : decode (me_b mJ7_fill_53178) 4 = .ok (.istore_n 3, 1) := by decide +kernel
theorem dJ7_fill_53178_5 : decode (me_b mJ7_fill_53178) 5 = .ok (.iload_n 2, 1) := by decide +kernel
theorem dJ7_fill_53178_6 : decode (me_b mJ7_fill_53178) 6 = .ok (.iload_n 3, 1) := by decide +kernel
theorem dJ7_fill_53178_7 : decode (me_b mJ7_fill_53178) 7 = .ok (.if_icmp .ge 13, 3) := by decide +kernel
theorem dJ7_fill_53178_10 : decode (me_b mJ7_fill_53178) 10 = .ok (.aload_n 0, 1) := by decide +kernel
theorem dJ7_fill_53178_11 : decode (me_b mJ7_fill_53178) 11 = .ok (.iload_n 2, 1) := by decide +kernel
theorem dJ7_fill_53178_12 : decode (me_b mJ7_fill_53178) 12 = .ok (.iload_n 1, 1) := by decide +kernel
theorem dJ7_fill_53178_13 : decode (me_b mJ7_fill_53178) 13 = .ok (.iastore, 1) := by decide +kernel
theorem dJ7_fill_53178_14 : decode (me_b mJ7_fill_53178) 14 = .ok (.iinc 2 1, 3) := by decide +kernel
theorem dJ7_fill_53178_17 : decode (me_b mJ7_fill_53178) 17 = .ok (.goto (-12), 3) := by decide +kernel
theorem dJ7_fill_53178_20 : decode (me_b mJ7_fill_53178) 20 = .ok (.return_, 1) := by decide +kernel
set_option maxRecDepth 20000 in
theorem s_J7_fill_53178_0 {σ : ab_M} {Q : Option ab_V → ab_M → Prop} {g : Nat} {x1 : Int32} {n : Nat} (hg : sh0[g]? = some (.inr (.inl (0, n))))
    (k : ev mJ7_fill_53178 5 [some (.inr (.inr g)), some (.inl x1), some (.inl 0), some (.inl (nI n))] [] σ Q) :
    ev mJ7_fill_53178 0 [some (.inr (.inr g)), some (.inl x1), none, none] [] σ Q := by
  refine ev_cst (v := 0) (pc' := 1) dJ7_fill_53178_0 (by decide) rfl ?_
  refine ev_p (pc' := 2) (ls' := [some (.inr (.inr g)), some (.inl x1), some (.inl 0), none]) (st' := []) dJ7_fill_53178_1 rfl ?_
  refine ev_p (pc' := 3) (ls' := [some (.inr (.inr g)), some (.inl x1), some (.inl 0), none]) (st' := [.inr (.inr g)]) dJ7_fill_53178_2 rfl ?_
  refine ev_len (pc' := 4) dJ7_fill_53178_3 hg rfl rfl ?_
  refine ev_p (pc' := 5) (ls' := [some (.inr (.inr g)), some (.inl x1), some (.inl 0), some (.inl (nI n))]) (st' := []) dJ7_fill_53178_4 rfl ?_
  exact k
set_option maxRecDepth 20000 in
theorem s_J7_fill_53178_5 {σ : ab_M} {Q : Option ab_V → ab_M → Prop} {g : Nat} {x1 : Int32} {x2 : Int32} {x3 : Int32} {n : Nat} (hg : sh0[g]? = some (.inr (.inl (0, n))))
    (k : ((x3 ≤ x2 → Q none σ) ∧ (¬ x3 ≤ x2 → ab_in x2 n = true ∧ ev mJ7_fill_53178 5 [some (.inr (.inr g)), some (.inl x1), some (.inl (x2 + 1)), some (.inl x3)] [] (ab_upd σ g x2.toNatClampNeg x1) Q))) :
    ev mJ7_fill_53178 5 [some (.inr (.inr g)), some (.inl x1), some (.inl x2), some (.inl x3)] [] σ Q := by
  refine ev_p (pc' := 6) (ls' := [some (.inr (.inr g)), some (.inl x1), some (.inl x2), some (.inl x3)]) (st' := [.inl x2]) dJ7_fill_53178_5 rfl ?_
  refine ev_p (pc' := 7) (ls' := [some (.inr (.inr g)), some (.inl x1), some (.inl x2), some (.inl x3)]) (st' := [.inl x3, .inl x2]) dJ7_fill_53178_6 rfl ?_
  refine ev_ic_ge (tgt := 20) (pc' := 10) dJ7_fill_53178_7 (by decide) rfl (fun h1 => ?_) (fun h1 => ?_)
  · have k := k.1 h1
    exact ev_ret dJ7_fill_53178_20 rfl k
  · have k := k.2 h1
    refine ev_p (pc' := 11) (ls' := [some (.inr (.inr g)), some (.inl x1), some (.inl x2), some (.inl x3)]) (st' := [.inr (.inr g)]) dJ7_fill_53178_10 rfl ?_
    refine ev_p (pc' := 12) (ls' := [some (.inr (.inr g)), some (.inl x1), some (.inl x2), some (.inl x3)]) (st' := [.inl x2, .inr (.inr g)]) dJ7_fill_53178_11 rfl ?_
    refine ev_p (pc' := 13) (ls' := [some (.inr (.inr g)), some (.inl x1), some (.inl x2), some (.inl x3)]) (st' := [.inl x1, .inl x2, .inr (.inr g)]) dJ7_fill_53178_12 rfl ?_
    refine ev_stor (pc' := 14) (z := x1) rfl dJ7_fill_53178_13 hg rfl k.1 rfl rfl ?_
    have k := k.2
    refine ev_p (pc' := 17) (ls' := [some (.inr (.inr g)), some (.inl x1), some (.inl (x2 + 1)), some (.inl x3)]) (st' := []) dJ7_fill_53178_14 rfl ?_
    refine ev_go (tgt := 5) dJ7_fill_53178_17 (by decide) ?_
    exact k

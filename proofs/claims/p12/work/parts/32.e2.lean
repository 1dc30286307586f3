section EW
variable {M : ab_Me} {pc pc' n : Nat} {ls ls' : ab_L} {st st' : List ab_V} {σ σ' : ab_M} {Q : Option ab_V → ab_M → Prop} {i : Jvm.ClassFile.Instr}
theorem ev_p (hd : decode (me_b M) pc = .ok (i, n)) (h : ab_do M i n pc ls st sh0 σ 0 0 = some (.inl (pc', ls', st', sh0, σ, 0, 0))) (k : ev M pc' ls' st' σ Q) : ev M pc ls st σ Q := ev_do hd h k
theorem ev_getI {x ci kf q : Nat} {ff : List (Option (Option Nat))} (hd : decode (me_b M) pc = .ok (.getfield x, 3)) (hF : tb_F (me_own M) x = some (ci, kf)) (hq : sh0[q]? = some (.inl (ci, ff))) (hk : ff[kf]? = some none) (hpc : pc + 3 = pc') (k : ev M pc' ls (.inl (σ q kf) :: st) σ Q) : ev M pc ls (.inr (.inr q) :: st) σ Q := by
  subst hpc
  refine ev_do hd ?_ k
  show (bif Nat.beq 3 3 then (ab_get (me_own M) x _ sh0 σ).map _ else none) = _
  unfold ab_get
  simp only [hF, hq, hk]
  rw [Nat.beq_refl, Nat.beq_refl]
  rfl
theorem ev_getA {x ci kf q z : Nat} {ff : List (Option (Option Nat))} (hd : decode (me_b M) pc = .ok (.getfield x, 3)) (hF : tb_F (me_own M) x = some (ci, kf)) (hq : sh0[q]? = some (.inl (ci, ff))) (hk : ff[kf]? = some (some (some z))) (hpc : pc + 3 = pc') (k : ev M pc' ls (.inr (.inr z) :: st) σ Q) : ev M pc ls (.inr (.inr q) :: st) σ Q := by
  subst hpc
  refine ev_do hd ?_ k
  show (bif Nat.beq 3 3 then (ab_get (me_own M) x _ sh0 σ).map _ else none) = _
  unfold ab_get
  simp only [hF, hq, hk]
  rw [Nat.beq_refl, Nat.beq_refl]
  rfl
theorem ev_putI {x ci kf q : Nat} {v : Int32} {ff : List (Option (Option Nat))} (hd : decode (me_b M) pc = .ok (.putfield x, 3)) (hF : tb_F (me_own M) x = some (ci, kf)) (hq : sh0[q]? = some (.inl (ci, ff))) (hk : ff[kf]? = some none) (hm : ab_may M ci kf = true) (hf : ab_fit (ab_fty ci kf) v = true) (hpc : pc + 3 = pc') (k : ev M pc' ls st (ab_upd σ q kf v) Q) : ev M pc ls (.inl v :: .inr (.inr q) :: st) σ Q := by
  subst hpc
  refine ev_do hd ?_ k
  show (bif Nat.beq 3 3 then (ab_put M x _ sh0 σ).map _ else none) = _
  unfold ab_put
  simp only [hF, hq, hk, hm, hf]
  rw [Nat.beq_refl, Nat.beq_refl]
  rfl
theorem ev_load {ty : FieldType} {t n0 q : Nat} {x : Int32} (hi : ab_ald i = some ty) (hd : decode (me_b M) pc = .ok (i, 1)) (hq : sh0[q]? = some (.inr (.inl (t, n0)))) (ht : ab_teq t ty = true) (hx : ab_in x n0 = true) (hpc : pc + 1 = pc') (k : ev M pc' ls (.inl (σ q x.toNatClampNeg) :: st) σ Q) : ev M pc ls (.inl x :: .inr (.inr q) :: st) σ Q := by
  subst hpc
  refine ev_do hd ?_ k
  have e : ab_load ty (.inl x :: .inr (.inr q) :: st) sh0 σ = some (.inl (σ q x.toNatClampNeg) :: st) := by
    unfold ab_load
    simp only [hq, ht, hx]
    rfl
  unfold ab_ald at hi
  split at hi
  · cases hi
    show (bif Nat.beq 1 1 then (ab_load .int _ sh0 σ).map _ else none) = _
    rw [e, Nat.beq_refl]
    rfl
  · cases hi
    show (bif Nat.beq 1 1 then (ab_load .char _ sh0 σ).map _ else none) = _
    rw [e, Nat.beq_refl]
    rfl
  · cases hi
    show (bif Nat.beq 1 1 then (ab_load .boolean _ sh0 σ).map _ else none) = _
    rw [e, Nat.beq_refl]
    rfl
  · cases hi
theorem ev_stor {ty : FieldType} {t n0 q : Nat} {x y z : Int32} (hi : ab_ast i = some ty) (hd : decode (me_b M) pc = .ok (i, 1)) (hq : sh0[q]? = some (.inr (.inl (t, n0)))) (ht : ab_teq t ty = true) (hx : ab_in x n0 = true) (hz : ab_nar ty y = z) (hpc : pc + 1 = pc') (k : ev M pc' ls st (ab_upd σ q x.toNatClampNeg z) Q) : ev M pc ls (.inl y :: .inl x :: .inr (.inr q) :: st) σ Q := by
  subst hpc
  subst hz
  refine ev_do hd ?_ k
  have e : ab_stor ty (.inl y :: .inl x :: .inr (.inr q) :: st) sh0 σ = some (st, ab_upd σ q x.toNatClampNeg (ab_nar ty y)) := by
    unfold ab_stor
    simp only [hq, ht, hx]
    rfl
  unfold ab_ast at hi
  split at hi
  · cases hi
    show (bif Nat.beq 1 1 then (ab_stor .int _ sh0 σ).map _ else none) = _
    rw [e, Nat.beq_refl]
    rfl
  · cases hi
    show (bif Nat.beq 1 1 then (ab_stor .char _ sh0 σ).map _ else none) = _
    rw [e, Nat.beq_refl]
    rfl
  · cases hi
    show (bif Nat.beq 1 1 then (ab_stor .boolean _ sh0 σ).map _ else none) = _
    rw [e, Nat.beq_refl]
    rfl
  · cases hi
theorem ev_br {c : Jvm.ClassFile.Cond} {off : Int} {tgt : Nat} {x : Int32} (hd : decode (me_b M) pc = .ok (.ifCond c off, 3)) (ht : (pc : Int) + off = (tgt : Int)) (k : ev M (bif ab_z c x then tgt else pc + 3) ls st σ Q) : ev M pc ls (.inl x :: st) σ Q := by
  refine ev_do hd ?_ k
  show (bif Nat.beq 3 3 && decide ((pc : Int) + off = (((pc : Int) + off).toNat : Int)) then (ab_br (.ifCond c off) _).map _ else none) = _
  rw [ht, Nat.beq_refl]
  simp [ab_br]
theorem ev_bc {c : Jvm.ClassFile.Cond} {off : Int} {tgt : Nat} {x y : Int32} (hd : decode (me_b M) pc = .ok (.if_icmp c off, 3)) (ht : (pc : Int) + off = (tgt : Int)) (k : ev M (bif ab_cmp c x y then tgt else pc + 3) ls st σ Q) : ev M pc ls (.inl y :: .inl x :: st) σ Q := by
  refine ev_do hd ?_ k
  show (bif Nat.beq 3 3 && decide ((pc : Int) + off = (((pc : Int) + off).toNat : Int)) then (ab_br (.if_icmp c off) _).map _ else none) = _
  rw [ht, Nat.beq_refl]
  simp [ab_br]
theorem ev_go {off : Int} {tgt : Nat} (hd : decode (me_b M) pc = .ok (.goto off, 3)) (ht : (pc : Int) + off = (tgt : Int)) (k : ev M tgt ls st σ Q) : ev M pc ls st σ Q := by
  refine ev_do hd ?_ k
  show (bif Nat.beq 3 3 && decide ((pc : Int) + off = (((pc : Int) + off).toNat : Int)) then some _ else none) = _
  rw [ht, Nat.beq_refl]
  simp
theorem ev_if_eq {off : Int} {tgt : Nat} {x : Int32} (hd : decode (me_b M) pc = .ok (.ifCond .eq off, 3)) (ht : (pc : Int) + off = (tgt : Int)) (hpc : pc + 3 = pc') (k1 : x = 0 → ev M tgt ls st σ Q) (k2 : ¬ x = 0 → ev M pc' ls st σ Q) : ev M pc ls (.inl x :: st) σ Q := by
  subst hpc
  refine ev_br hd ht ?_
  cases h : ab_z .eq x with
  | true => exact k1 (of_decide_eq_true h)
  | false => exact k2 (of_decide_eq_false h)
theorem ev_ic_eq {off : Int} {tgt : Nat} {x y : Int32} (hd : decode (me_b M) pc = .ok (.if_icmp .eq off, 3)) (ht : (pc : Int) + off = (tgt : Int)) (hpc : pc + 3 = pc') (k1 : x = y → ev M tgt ls st σ Q) (k2 : ¬ x = y → ev M pc' ls st σ Q) : ev M pc ls (.inl y :: .inl x :: st) σ Q := by
  subst hpc
  refine ev_bc hd ht ?_
  cases h : ab_cmp .eq x y with
  | true => exact k1 (of_decide_eq_true h)
  | false => exact k2 (of_decide_eq_false h)
theorem ev_if_ne {off : Int} {tgt : Nat} {x : Int32} (hd : decode (me_b M) pc = .ok (.ifCond .ne off, 3)) (ht : (pc : Int) + off = (tgt : Int)) (hpc : pc + 3 = pc') (k1 : ¬ x = 0 → ev M tgt ls st σ Q) (k2 : x = 0 → ev M pc' ls st σ Q) : ev M pc ls (.inl x :: st) σ Q := by
  subst hpc
  refine ev_br hd ht ?_
  cases h : ab_z .ne x with
  | true => exact k1 (by simpa [ab_z, ab_cmp] using h)
  | false => exact k2 (by simpa [ab_z, ab_cmp] using h)
theorem ev_ic_ne {off : Int} {tgt : Nat} {x y : Int32} (hd : decode (me_b M) pc = .ok (.if_icmp .ne off, 3)) (ht : (pc : Int) + off = (tgt : Int)) (hpc : pc + 3 = pc') (k1 : ¬ x = y → ev M tgt ls st σ Q) (k2 : x = y → ev M pc' ls st σ Q) : ev M pc ls (.inl y :: .inl x :: st) σ Q := by
  subst hpc
  refine ev_bc hd ht ?_
  cases h : ab_cmp .ne x y with
  | true => exact k1 (by simpa [ab_z, ab_cmp] using h)
  | false => exact k2 (by simpa [ab_z, ab_cmp] using h)
theorem ev_if_lt {off : Int} {tgt : Nat} {x : Int32} (hd : decode (me_b M) pc = .ok (.ifCond .lt off, 3)) (ht : (pc : Int) + off = (tgt : Int)) (hpc : pc + 3 = pc') (k1 : x < 0 → ev M tgt ls st σ Q) (k2 : ¬ x < 0 → ev M pc' ls st σ Q) : ev M pc ls (.inl x :: st) σ Q := by
  subst hpc
  refine ev_br hd ht ?_
  cases h : ab_z .lt x with
  | true => exact k1 (of_decide_eq_true h)
  | false => exact k2 (of_decide_eq_false h)
theorem ev_ic_lt {off : Int} {tgt : Nat} {x y : Int32} (hd : decode (me_b M) pc = .ok (.if_icmp .lt off, 3)) (ht : (pc : Int) + off = (tgt : Int)) (hpc : pc + 3 = pc') (k1 : x < y → ev M tgt ls st σ Q) (k2 : ¬ x < y → ev M pc' ls st σ Q) : ev M pc ls (.inl y :: .inl x :: st) σ Q := by
  subst hpc
  refine ev_bc hd ht ?_
  cases h : ab_cmp .lt x y with
  | true => exact k1 (of_decide_eq_true h)
  | false => exact k2 (of_decide_eq_false h)
theorem ev_if_ge {off : Int} {tgt : Nat} {x : Int32} (hd : decode (me_b M) pc = .ok (.ifCond .ge off, 3)) (ht : (pc : Int) + off = (tgt : Int)) (hpc : pc + 3 = pc') (k1 : 0 ≤ x → ev M tgt ls st σ Q) (k2 : ¬ 0 ≤ x → ev M pc' ls st σ Q) : ev M pc ls (.inl x :: st) σ Q := by
  subst hpc
  refine ev_br hd ht ?_
  cases h : ab_z .ge x with
  | true => exact k1 (of_decide_eq_true h)
  | false => exact k2 (of_decide_eq_false h)
theorem ev_ic_ge {off : Int} {tgt : Nat} {x y : Int32} (hd : decode (me_b M) pc = .ok (.if_icmp .ge off, 3)) (ht : (pc : Int) + off = (tgt : Int)) (hpc : pc + 3 = pc') (k1 : y ≤ x → ev M tgt ls st σ Q) (k2 : ¬ y ≤ x → ev M pc' ls st σ Q) : ev M pc ls (.inl y :: .inl x :: st) σ Q := by
  subst hpc
  refine ev_bc hd ht ?_
  cases h : ab_cmp .ge x y with
  | true => exact k1 (of_decide_eq_true h)
  | false => exact k2 (of_decide_eq_false h)
theorem ev_if_gt {off : Int} {tgt : Nat} {x : Int32} (hd : decode (me_b M) pc = .ok (.ifCond .gt off, 3)) (ht : (pc : Int) + off = (tgt : Int)) (hpc : pc + 3 = pc') (k1 : 0 < x → ev M tgt ls st σ Q) (k2 : ¬ 0 < x → ev M pc' ls st σ Q) : ev M pc ls (.inl x :: st) σ Q := by
  subst hpc
  refine ev_br hd ht ?_
  cases h : ab_z .gt x with
  | true => exact k1 (of_decide_eq_true h)
  | false => exact k2 (of_decide_eq_false h)
theorem ev_ic_gt {off : Int} {tgt : Nat} {x y : Int32} (hd : decode (me_b M) pc = .ok (.if_icmp .gt off, 3)) (ht : (pc : Int) + off = (tgt : Int)) (hpc : pc + 3 = pc') (k1 : y < x → ev M tgt ls st σ Q) (k2 : ¬ y < x → ev M pc' ls st σ Q) : ev M pc ls (.inl y :: .inl x :: st) σ Q := by
  subst hpc
  refine ev_bc hd ht ?_
  cases h : ab_cmp .gt x y with
  | true => exact k1 (of_decide_eq_true h)
  | false => exact k2 (of_decide_eq_false h)
theorem ev_if_le {off : Int} {tgt : Nat} {x : Int32} (hd : decode (me_b M) pc = .ok (.ifCond .le off, 3)) (ht : (pc : Int) + off = (tgt : Int)) (hpc : pc + 3 = pc') (k1 : x ≤ 0 → ev M tgt ls st σ Q) (k2 : ¬ x ≤ 0 → ev M pc' ls st σ Q) : ev M pc ls (.inl x :: st) σ Q := by
  subst hpc
  refine ev_br hd ht ?_
  cases h : ab_z .le x with
  | true => exact k1 (of_decide_eq_true h)
  | false => exact k2 (of_decide_eq_false h)
theorem ev_ic_le {off : Int} {tgt : Nat} {x y : Int32} (hd : decode (me_b M) pc = .ok (.if_icmp .le off, 3)) (ht : (pc : Int) + off = (tgt : Int)) (hpc : pc + 3 = pc') (k1 : x ≤ y → ev M tgt ls st σ Q) (k2 : ¬ x ≤ y → ev M pc' ls st σ Q) : ev M pc ls (.inl y :: .inl x :: st) σ Q := by
  subst hpc
  refine ev_bc hd ht ?_
  cases h : ab_cmp .le x y with
  | true => exact k1 (of_decide_eq_true h)
  | false => exact k2 (of_decide_eq_false h)
end EW
theorem ab_in_iff {x : Int32} {n : Nat} : ab_in x n = true ↔ 0 ≤ x.toInt ∧ x.toInt < n := by
  constructor
  · intro h
    exact vp_in_iff.mp (ab_in_ok h)
  · intro h
    have h2 := vp_in_iff.mpr h
    unfold ab_in
    rw [Bool.and_eq_true, Bool.not_eq_true']
    refine ⟨decide_eq_false (fun q => h2 (Or.inl q)), ?_⟩
    exact Nat.ble_eq_true_of_le (Nat.not_le.mp fun q => h2 (Or.inr q))
theorem ab_in_of {x : Int32} {n : Nat} (h1 : 0 ≤ x.toInt) (h2 : x.toInt < n) : ab_in x n = true := ab_in_iff.mpr ⟨h1, h2⟩
theorem ev_cst {M : ab_Me} {pc pc' n : Nat} {ls : ab_L} {st : List ab_V} {σ : ab_M} {Q : Option ab_V → ab_M → Prop} {i : Jvm.ClassFile.Instr} {v : Int32} (hd : decode (me_b M) pc = .ok (i, n)) (hc : ab_cst i = some (n, v)) (hpc : pc + n = pc') (k : ev M pc' ls (.inl v :: st) σ Q) : ev M pc ls st σ Q := by
  subst hpc
  refine ev_do hd ?_ k
  unfold ab_cst at hc
  split at hc
  · cases hc; rfl
  · cases hc; rfl
  · cases hc; rfl
  · cases hc
theorem ev_mm {M : ab_Me} {pc pc' x : Nat} {ls : ab_L} {st : List ab_V} {σ : ab_M} {Q : Option ab_V → ab_M → Prop} {b : Bool} {y z : Int32} (hd : decode (me_b M) pc = .ok (.invokestatic x, 3)) (hX : tb_X (me_own M) x = some b) (h1 : Nat.ble 1 (me_fr M) = true) (h2 : Nat.ble (ab_cats st + 13) (me_lo M) = true) (hpc : pc + 3 = pc') (k : ev M pc' ls (.inl (ab_mm b z y) :: st) σ Q) : ev M pc ls (.inl y :: .inl z :: st) σ Q := by
  subst hpc
  refine ev_do hd ?_ k
  have z1 : Nat.ble 0 (me_mc M) = true := Nat.ble_eq_true_of_le (Nat.zero_le _)
  have z2 : Nat.ble 0 (me_ms M) = true := Nat.ble_eq_true_of_le (Nat.zero_le _)
  unfold ab_do
  simp only [hX, h1, h2, z1, z2, Bool.and_self, cond_true]
  rw [Nat.beq_refl]
  rfl
theorem ev_retZ {M : ab_Me} {pc : Nat} {ls : ab_L} {σ : ab_M} {Q : Option ab_V → ab_M → Prop} {ty : FieldType} {v : Int32} (hd : decode (me_b M) pc = .ok (.ireturn, 1)) (hr : me_ret M = some ty) (hv : ab_rok ty v = true) (k : Q (some (.inl v)) σ) : ev M pc ls [.inl v] σ Q := by
  refine ev_ret hd ?_ k
  have z1 : Nat.ble 0 (me_mc M) = true := Nat.ble_eq_true_of_le (Nat.zero_le _)
  have z2 : Nat.ble 0 (me_ms M) = true := Nat.ble_eq_true_of_le (Nat.zero_le _)
  unfold ab_do
  simp only [z1, z2, Bool.and_true]
  rw [Nat.beq_refl]
  simp [ab_ret, hr, hv]
theorem li_0 : (0 : Int32).toInt = 0 := by decide
theorem li_1 : (1 : Int32).toInt = 1 := by decide
theorem li_2 : (2 : Int32).toInt = 2 := by decide
theorem li_3 : (3 : Int32).toInt = 3 := by decide
theorem li_4 : (4 : Int32).toInt = 4 := by decide
theorem li_5 : (5 : Int32).toInt = 5 := by decide
theorem li_7 : (7 : Int32).toInt = 7 := by decide
theorem li_8 : (8 : Int32).toInt = 8 := by decide
theorem li_9 : (9 : Int32).toInt = 9 := by decide
theorem li_16 : (16 : Int32).toInt = 16 := by decide
theorem li_32 : (32 : Int32).toInt = 32 := by decide
theorem li_33 : (33 : Int32).toInt = 33 := by decide
theorem li_58 : (58 : Int32).toInt = 58 := by decide
theorem li_59 : (59 : Int32).toInt = 59 := by decide
theorem li_60 : (60 : Int32).toInt = 60 := by decide
theorem li_61 : (61 : Int32).toInt = 61 := by decide
theorem li_64 : (64 : Int32).toInt = 64 := by decide
theorem li_80 : (80 : Int32).toInt = 80 := by decide
theorem li_83 : (83 : Int32).toInt = 83 := by decide
theorem li_97 : (97 : Int32).toInt = 97 := by decide
theorem li_100 : (100 : Int32).toInt = 100 := by decide
theorem li_120 : (120 : Int32).toInt = 120 := by decide
theorem li_122 : (122 : Int32).toInt = 122 := by decide
theorem li_124 : (124 : Int32).toInt = 124 := by decide
theorem li_126 : (126 : Int32).toInt = 126 := by decide
theorem li_128 : (128 : Int32).toInt = 128 := by decide
theorem li_129 : (129 : Int32).toInt = 129 := by decide
theorem li_255 : (255 : Int32).toInt = 255 := by decide
theorem li_512 : (512 : Int32).toInt = 512 := by decide
theorem li_540 : (540 : Int32).toInt = 540 := by decide
theorem li_3000 : (3000 : Int32).toInt = 3000 := by decide
theorem li_1000000 : (1000000 : Int32).toInt = 1000000 := by decide
theorem li_65535 : (65535 : Int32).toInt = 65535 := by decide
theorem li_m1 : (-1 : Int32).toInt = -1 := by decide
theorem ev_inv1 {M M' : ab_Me} {pc x y q ci : Nat} {ls : ab_L} {st as' r : List ab_V} {σ : ab_M} {ff : List (Option (Option Nat))} (hY : tb_Y 1 (me_own M) x = some y) (hM : tb_M[y]? = some M') (hna : me_na M' = as'.length + 1) (hc : Nat.ble (ab_cats r) 8 = true) (hq : sh0[q]? = some (.inl (ci, ff))) (hci : Nat.beq ci (me_own M') = true) (hst : st = as'.reverse ++ .inr (.inr q) :: r) : ab_do M (.invokevirtual x) 3 pc ls st sh0 σ 0 0 = some (.inr (.inl (y, .inr (.inr q) :: as', r))) := by
  have e1 : (st.take (me_na M')).reverse = .inr (.inr q) :: as' := by
    rw [hst, hna]
    have : as'.reverse ++ .inr (.inr q) :: r = (as'.reverse ++ [.inr (.inr q)]) ++ r := by simp
    rw [this, List.take_append_of_le_length (by simp), List.take_of_length_le (by simp)]
    simp
  have e2 : st.drop (me_na M') = r := by
    rw [hst, hna]
    have : as'.reverse ++ .inr (.inr q) :: r = (as'.reverse ++ [.inr (.inr q)]) ++ r := by simp
    rw [this, List.drop_append_of_le_length (by simp), List.drop_of_length_le (by simp)]
    simp
  have e3 : Nat.ble (me_na M') st.length = true := by
    apply Nat.ble_eq_true_of_le
    rw [hst, hna]
    simp only [List.length_append, List.length_reverse, List.length_cons]
    omega
  unfold ab_do
  rw [Nat.beq_refl]
  simp only [cond_true, ab_inv, hY, hM, e1, e2, e3, hc, Bool.and_self, hq, hci]
  rfl
theorem ev_aald {M : ab_Me} {pc pc' : Nat} {ls : ab_L} {st : List ab_V} {σ : ab_M} {Q : Option ab_V → ab_M → Prop} {x : Int32} (hd : decode (me_b M) pc = .ok (.aaload, 1)) (hx : ab_in x 9 = true) (hpc : pc + 1 = pc') (k : ev M pc' ls (.inr (.inr (7 + 3 * x.toNatClampNeg)) :: st) σ Q) : ev M pc ls (.inl x :: .inr (.inr 6) :: st) σ Q := by
  subst hpc
  refine ev_do hd ?_ k
  have hlt : x.toNatClampNeg < 9 := by
    have h := ab_in_ok hx
    exact Nat.not_le.mp fun q => h (Or.inr q)
  have e : ab_loadA (.inl x :: .inr (.inr 6) :: st) sh0 = some (.inr (.inr (7 + 3 * x.toNatClampNeg)) :: st) := by
    have hg : ∀ k : Nat, k < 9 → ([some 7, some 10, some 13, some 16, some 19, some 22, some 25, some 28, some 31] : List (Option Nat)).getD k none = some (7 + 3 * k) := by decide
    have hs : sh0[6]? = some (.inr (.inr (3, [some 7, some 10, some 13, some 16, some 19, some 22, some 25, some 28, some 31]))) := rfl
    unfold ab_loadA
    simp only [hs, hg _ hlt, List.length]
    have ht : ab_tob 3 = true := by decide
    rw [ht]
    have hx' : ab_in x (0 + 1 + 1 + 1 + 1 + 1 + 1 + 1 + 1 + 1) = true := hx
    rw [hx']
    rfl
  unfold ab_do
  rw [e, Nat.beq_refl]
  rfl
theorem ev_len {M : ab_Me} {pc pc' q t n0 : Nat} {ls : ab_L} {st : List ab_V} {σ : ab_M} {Q : Option ab_V → ab_M → Prop} (hd : decode (me_b M) pc = .ok (.arraylength, 1)) (hq : sh0[q]? = some (.inr (.inl (t, n0)))) (ht : Nat.blt t tb_A.length = true) (hpc : pc + 1 = pc') (k : ev M pc' ls (.inl (nI n0) :: st) σ Q) : ev M pc ls (.inr (.inr q) :: st) σ Q := by
  subst hpc
  refine ev_do hd ?_ k
  unfold ab_do ab_len
  simp only [hq, ht, cond_true]
  rw [Nat.beq_refl]
  rfl
theorem ev_div {M : ab_Me} {pc pc' : Nat} {ls : ab_L} {st : List ab_V} {σ : ab_M} {Q : Option ab_V → ab_M → Prop} {x y : Int32} (hd : decode (me_b M) pc = .ok (.idiv, 1)) (hy : ¬ y = 0) (hpc : pc + 1 = pc') (k : ev M pc' ls (.inl (x / y) :: st) σ Q) : ev M pc ls (.inl y :: .inl x :: st) σ Q := by
  subst hpc
  refine ev_do hd ?_ k
  unfold ab_do
  have e : decide (y = 0) = false := decide_eq_false hy
  simp only [e, cond_false]
  rw [Nat.beq_refl]
  rfl
theorem ev_divR {M : ab_Me} {pc pc' : Nat} {ls : ab_L} {st : List ab_V} {σ : ab_M} {Q : Option ab_V → ab_M → Prop} {x y : Int32} (hd : decode (me_b M) pc = .ok (.irem, 1)) (hy : ¬ y = 0) (hpc : pc + 1 = pc') (k : ev M pc' ls (.inl (x - x / y * y) :: st) σ Q) : ev M pc ls (.inl y :: .inl x :: st) σ Q := by
  subst hpc
  refine ev_do hd ?_ k
  unfold ab_do
  have e : decide (y = 0) = false := decide_eq_false hy
  simp only [e, cond_false]
  rw [Nat.beq_refl]
  rfl

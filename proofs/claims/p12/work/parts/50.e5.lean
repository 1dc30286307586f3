/-! ===== lN n to 2^64: shifts, and, or, masks, one bit ===== -/
theorem wb_tb (n : Nat) : (lN n).toBitVec = BitVec.ofNat 64 n := rfl
theorem wb_inj {a b : Int64} (h : a.toBitVec = b.toBitVec) : a = b := Int64.toBitVec_inj.mp h
theorem wb_tn {n : Nat} (h : n < 2 ^ 64) : (lN n).toBitVec.toNat = n := by rw [wb_tb, BitVec.toNat_ofNat, Nat.mod_eq_of_lt h]
theorem wb_of (x : Int64) : ∃ n, n < 2 ^ 64 ∧ x = lN n := ⟨x.toBitVec.toNat, x.toBitVec.isLt, wb_inj (by rw [wb_tb]; simp)⟩
theorem wb_of32 (x : Int32) : ∃ n, n < 2 ^ 32 ∧ x = nI n := ⟨x.toBitVec.toNat, x.toBitVec.isLt, Int32.toBitVec_inj.mp (by show _ = BitVec.ofNat 32 _; simp)⟩
theorem wb_c : ∀ k, k < 64 → ((nI k).toInt64 &&& 63) = lN k := by decide +kernel
theorem wb_cu : ∀ k, k < 64 → ((nI k).toInt64.toUInt64 &&& Int64.toUInt64 63) = UInt64.ofNat k := by decide +kernel
theorem wb_sm : ∀ k, k < 64 → (BitVec.ofNat 64 k).smod 64 = BitVec.ofNat 64 k := by decide +kernel
theorem wb_pw {a b : Nat} (h : a ≤ b) : 2 ^ b = 2 ^ a * 2 ^ (b - a) := by rw [← Nat.pow_add]; congr 1; omega
theorem wb_lt2 {a b : Nat} (h : a < b) : 2 ^ a < 2 ^ b := Nat.pow_lt_pow_right (by decide) h
theorem wb_mod (n : Nat) : lN n = lN (n % 2 ^ 64) := wb_inj (by rw [wb_tb, wb_tb]; apply BitVec.eq_of_toNat_eq; rw [BitVec.toNat_ofNat, BitVec.toNat_ofNat, Nat.mod_mod])
theorem wb_shr {n k : Nat} (hn : n < 2 ^ 64) (hk : k < 64) : ((lN n).toUInt64 >>> ((nI k).toInt64.toUInt64 &&& Int64.toUInt64 63)).toInt64 = lN (n / 2 ^ k) := by
  rw [wb_cu k hk]
  apply wb_inj
  apply BitVec.eq_of_toNat_eq
  show ((lN n).toUInt64 >>> UInt64.ofNat k).toNat = (BitVec.ofNat 64 _).toNat
  have h1 : (UInt64.ofNat k).toNat = k := by
    show (BitVec.ofNat 64 k).toNat = k
    rw [BitVec.toNat_ofNat, Nat.mod_eq_of_lt (by omega)]
  have h2 : (lN n).toUInt64.toNat = n := wb_tn hn
  rw [UInt64.toNat_shiftRight, h1, h2, Nat.mod_eq_of_lt hk, Nat.shiftRight_eq_div_pow, BitVec.toNat_ofNat, Nat.mod_eq_of_lt (Nat.lt_of_le_of_lt (Nat.div_le_self _ _) hn)]
theorem wb_shl (n : Nat) {k : Nat} (hk : k < 64) : lN n <<< ((nI k).toInt64 &&& 63) = lN (n * 2 ^ k) := by
  rw [wb_c k hk]
  apply wb_inj
  rw [Int64.toBitVec_shiftLeft, wb_tb, wb_tb, wb_tb, wb_sm k hk]
  apply BitVec.eq_of_toNat_eq
  rw [BitVec.shiftLeft_eq', BitVec.toNat_shiftLeft, BitVec.toNat_ofNat, BitVec.toNat_ofNat, BitVec.toNat_ofNat, Nat.mod_eq_of_lt (show k < 2 ^ 64 by omega), Nat.shiftLeft_eq, Nat.mul_mod, Nat.mod_mod, ← Nat.mul_mod]
theorem wb_and {a b : Nat} (ha : a < 2 ^ 64) (hb : b < 2 ^ 64) : lN a &&& lN b = lN (a &&& b) := by
  apply wb_inj
  rw [Int64.toBitVec_and, wb_tb, wb_tb, wb_tb]
  apply BitVec.eq_of_toNat_eq
  rw [BitVec.toNat_and, BitVec.toNat_ofNat, BitVec.toNat_ofNat, BitVec.toNat_ofNat, Nat.mod_eq_of_lt ha, Nat.mod_eq_of_lt hb, Nat.mod_eq_of_lt (Nat.and_lt_two_pow _ hb)]
theorem wb_or {a b : Nat} (ha : a < 2 ^ 64) (hb : b < 2 ^ 64) : lN a ||| lN b = lN (a ||| b) := by
  apply wb_inj
  rw [Int64.toBitVec_or, wb_tb, wb_tb, wb_tb]
  apply BitVec.eq_of_toNat_eq
  rw [BitVec.toNat_or, BitVec.toNat_ofNat, BitVec.toNat_ofNat, BitVec.toNat_ofNat, Nat.mod_eq_of_lt ha, Nat.mod_eq_of_lt hb, Nat.mod_eq_of_lt (Nat.or_lt_two_pow ha hb)]
theorem wb_mask {n k : Nat} (hn : n < 2 ^ 64) (hk : k < 64) : lN n &&& lN (2 ^ k - 1) = lN (n % 2 ^ k) := by
  rw [wb_and hn (by have := wb_lt2 hk; omega), Nat.and_two_pow_sub_one_eq_mod]
theorem wb_a1 {n : Nat} (hn : n < 2 ^ 64) : lN n &&& 1 = lN (n % 2) := wb_mask (k := 1) hn (by decide)
theorem wb_bit {n k : Nat} (hn : n < 2 ^ 64) (hk : k < 64) : ((lN n).toUInt64 >>> ((nI k).toInt64.toUInt64 &&& Int64.toUInt64 63)).toInt64 &&& 1 = lN (n / 2 ^ k % 2) := by
  rw [wb_shr hn hk, wb_a1 (Nat.lt_of_le_of_lt (Nat.div_le_self _ _) hn)]
/-! the bytes of a long -/
def tb (w : Int64) (k : Nat) : Nat := (w.toBitVec.toNat / 2 ^ (8 * k)) % 256
theorem tb_lt (w : Int64) (k : Nat) : tb w k < 256 := Nat.mod_lt _ (by decide)
theorem tb_8 (k : Nat) : 8 * nI k = nI (8 * k) := pk_mul 8 k
theorem tb_log (w : Int64) {k : Nat} (hk : k < 8) : (w.toUInt64 >>> ((8 * nI k).toInt64.toUInt64 &&& Int64.toUInt64 63)).toInt64 &&& 255 = lN (tb w k) := by
  obtain ⟨n, hn, rfl⟩ := wb_of w
  rw [tb_8, wb_shr hn (by omega)]
  have h1 : n / 2 ^ (8 * k) < 2 ^ 64 := Nat.lt_of_le_of_lt (Nat.div_le_self _ _) hn
  have h2 := wb_mask (n := n / 2 ^ (8 * k)) (k := 8) h1 (by decide)
  unfold tb
  rw [wb_tn hn]
  exact h2
theorem tb_c (w : Int64) {k : Nat} (hk : k < 8) : ((((((w.toUInt64 >>> ((8 * nI k).toInt64.toUInt64 &&& Int64.toUInt64 63)).toInt64) &&& 255).toInt32).toUInt32 % 65536).toInt32) = nI (tb w k) := by
  rw [tb_log w hk, lN_i, pk_char]
  have h := tb_lt w k
  rw [pk_tn (by omega), Nat.mod_eq_of_lt (by omega)]
theorem tb_ar (w : Int64) {k : Nat} (hk : k < 8) : (w >>> ((8 * nI k).toInt64 &&& 63)) &&& 255 = lN (tb w k) := by
  rw [← tb_log w hk]
  apply wb_inj
  rw [tb_8, wb_c (8 * k) (by omega), wb_cu (8 * k) (by omega)]
  rw [Int64.toBitVec_and, Int64.toBitVec_and]
  apply BitVec.eq_of_getLsbD_eq
  intro i hi
  rw [BitVec.getLsbD_and, BitVec.getLsbD_and]
  by_cases h8 : i < 8
  · congr 1
    have e1 : (w >>> lN (8 * k)).toBitVec = w.toBitVec.sshiftRight (8 * k) := by
      rw [Int64.toBitVec_shiftRight, wb_tb, wb_sm (8 * k) (by omega)]
      show w.toBitVec.sshiftRight (BitVec.ofNat 64 (8 * k)).toNat = _
      rw [BitVec.toNat_ofNat, Nat.mod_eq_of_lt (by omega)]
    have e2 : (w.toUInt64 >>> UInt64.ofNat (8 * k)).toInt64.toBitVec = w.toBitVec >>> (8 * k) := by
      show (w.toUInt64 >>> UInt64.ofNat (8 * k)).toBitVec = _
      rw [UInt64.toBitVec_shiftRight]
      apply BitVec.eq_of_toNat_eq
      have h3 : ((UInt64.ofNat (8 * k)).toBitVec % 64).toNat = 8 * k := by
        have h4 : (UInt64.ofNat (8 * k)).toBitVec = BitVec.ofNat 64 (8 * k) := rfl
        rw [h4, BitVec.toNat_umod, BitVec.toNat_ofNat]
        show 8 * k % 2 ^ 64 % 64 = 8 * k
        omega
      show (w.toBitVec >>> ((UInt64.ofNat (8 * k)).toBitVec % 64)).toNat = _
      rw [BitVec.ushiftRight_eq', h3]
    rw [e1, e2, BitVec.getLsbD_sshiftRight, BitVec.getLsbD_ushiftRight]
    have : ¬ 64 ≤ i := by omega
    simp only [this, decide_false, Bool.not_false, Bool.true_and]
    rw [if_pos (by omega)]
  · have hz : (255 : Int64).toBitVec.getLsbD i = false := by
      have e : (255 : Int64).toBitVec = BitVec.ofNat 64 255 := rfl
      rw [e, BitVec.getLsbD_ofNat]
      have : Nat.testBit 255 i = false := by
        apply Nat.testBit_lt_two_pow
        exact Nat.lt_of_lt_of_le (by decide : 255 < 2 ^ 8) (Nat.pow_le_pow_right (by decide) (by omega))
      rw [this]
      simp
    rw [hz, Bool.and_false, Bool.and_false]
theorem tb_cmp (b c : Nat) (hb : b < 2 ^ 31) (hc : c < 2 ^ 31) : (lg_cmp (lN b) (lN c) < 0 ↔ b < c) ∧ (0 < lg_cmp (lN b) (lN c) ↔ c < b) := by
  unfold lg_cmp
  have h1 := lN_lt hc hb
  have h2 := lN_lt hb hc
  have h3 := lN_eq hb hc
  by_cases q1 : c < b
  · rw [if_pos (h1.mpr q1)]
    exact ⟨⟨fun h => absurd h (by decide), fun h => by omega⟩, ⟨fun _ => q1, fun _ => by decide⟩⟩
  · rw [if_neg (fun h => q1 (h1.mp h))]
    by_cases q2 : b = c
    · rw [if_pos (h3.mpr q2)]
      exact ⟨⟨fun h => absurd h (by decide), fun h => by omega⟩, ⟨fun h => absurd h (by decide), fun h => by omega⟩⟩
    · rw [if_neg (fun h => q2 (h3.mp h))]
      exact ⟨⟨fun _ => by omega, fun _ => by decide⟩, ⟨fun h => absurd h (by decide), fun h => by omega⟩⟩

/-- a method of the class or the reference, from this memory: what it answers, the memory behind it -/
def ev0 (M : ab_Me) (as : List ab_V) (σ : ab_M) (v : Option ab_V) (σ' : ab_M) : Prop := ∃ n, ab_run n M 0 (ab_entry as (me_nl M)) [] sh0 σ 0 0 = some (v, sh0, σ')
theorem ev0_Ct {l : Launch} {M : ab_Me} {D : va_G} {ca : Nat → ClassId} {base : Nat} {as : List ab_V} {σ σ' : ab_M} {v : Option ab_V} (hM : M ∈ tb_M) (hlen : (ab_sl as).length ≤ me_nl M) (h : ev0 M as σ v σ') : ab_Ct l M D ca base as sh0 σ v sh0 σ' := by
  obtain ⟨n, h⟩ := h
  exact ab_sound hM hlen h
/-- a long out of two ints, as the law makes it -/
def lw_long (x y : Int32) : Int64 := (x.toInt64 <<< ((32 : Int32).toInt64 &&& 63)) ||| (y.toInt64 &&& 4294967295)
def lw_char (x : Int32) : Int32 := (x.toUInt32 % 65536).toInt32
set_option maxHeartbeats 4000000 in
set_option maxRecDepth 100000 in
theorem lw_c_symbol {p : Program} {l : Launch} {e : Env} {s : State} {m : MethodId} {below : List Frame} {meth : Method} {c : Code} {b L : Nat} {xs : Nat → Int32} {D : va_G} {ca : Nat → ClassId} {Z : State → Prop} {σ σ1 σ2 : ab_M} {v1 v2 i : Int32} {H : Heap} {locs : List Loc} {ls : Array Slot} (F : ab_Fr p s m #[Value.ref b] meth c code 4 11 false D ca s.heap.size) (hX : va_X b L xs s s.heap) (hbl : b < s.heap.size) (hin1 : vp_in (i + 1) L) (hin2 : vp_in (i + 2) L) (hin3 : vp_in (i + 3) L) (h1 : ev0 mX7_symbol [.inr (.inr 0), .inl (lw_char (xs (i + 1).toNatClampNeg)), .inl (xs (i + 2).toNatClampNeg)] σ (some (.inl v1)) σ1) (h2 : ev0 mX8_symbol [.inr (.inr 50), .inl (lw_char (xs (i + 1).toNatClampNeg)), .inl (xs (i + 2).toNatClampNeg)] σ1 (some (.inl v2)) σ2) (hz : H.size = s.heap.size + sh0.length) (hP : va_P D vwCl (ab_w s.heap.size ca sh0 σ) H) (hS : va_S (fun q => s.heap.size ≤ q) s.heap H locs) (hl : lv_has ls 4 [(3, .int i), (2, .ref (s.heap.size + 50)), (1, .ref (s.heap.size + 0)), (0, .ref b)])
    (k : ∀ (H : Heap) (locs : List Loc), H.size = s.heap.size + sh0.length → va_P D vwCl (ab_w s.heap.size ca sh0 σ2) H → va_S (fun q => s.heap.size ≤ q) s.heap H locs → W p l e room_1 s m #[Value.ref b] below meth c H locs 62 3719 Z (F0 m 376 ls [])) : W p l e room_1 s m #[Value.ref b] below meth c H locs 62 3719 Z (F0 m 96 ls []) := by
  have hx := F.1
  have hb := F.2.1
  have hown := F.2.2.2.1
  have hts := F.2.2.2.2.1
  have hbA : ¬ (fun q : Nat => s.heap.size ≤ q) b := Nat.not_le.mpr hbl
  refine lv_aload_n hx hb dL_law_96 rfl (lv_at hl 2 rfl) ?_
  refine lv_aload_n hx hb dL_law_97 rfl (lv_at hl 3 rfl) ?_
  refine lv_iload_n hx hb dL_law_98 rfl (lv_at hl 0 rfl) ?_
  refine lv_iconst (v := 1) hx hb dL_law_99 (by decide) ?_
  refine lv_iadd hx hb dL_law_100 ?_
  refine va_sld hx hb hX hbl hbA hS hin1 dL_law_101 ?_
  refine lv_i2c hx hb dL_law_102 rfl ?_
  refine lv_aload_n hx hb dL_law_103 rfl (lv_at hl 3 rfl) ?_
  refine lv_iload_n hx hb dL_law_104 rfl (lv_at hl 0 rfl) ?_
  refine lv_iconst (v := 2) hx hb dL_law_105 (by decide) ?_
  refine lv_iadd hx hb dL_law_106 ?_
  refine va_sld hx hb hX hbl hbA hS hin2 dL_law_107 ?_
  refine ab_callW (x := 13) (kd := 1) (y := 10) (M' := mX7_symbol) (as := [.inr (.inr 0), .inl (lw_char (xs (i + 1).toNatClampNeg)), .inl (xs (i + 2).toNatClampNeg)]) (r := []) (v := some (.inl v1)) (st := [.inl (xs (i + 2).toNatClampNeg), .inl (lw_char (xs (i + 1).toNatClampNeg)), .inr (.inr 0)]) F rfl dL_law_108 rfl rfl (ev0_Ct (List.mem_of_getElem? (i := 10) rfl) (Nat.le_of_ble_eq_true rfl) h1) (Nat.le_of_ble_eq_true rfl) (Nat.le_of_ble_eq_true rfl) (Nat.le_of_ble_eq_true rfl) (Nat.le_of_ble_eq_true rfl) hz hP hS hl.1 (fun H locs hz hP hS => ?_)
  refine lv_pop hx hb dL_law_111 rfl ?_
  refine lv_aload_n hx hb dL_law_112 rfl (lv_at hl 1 rfl) ?_
  refine lv_aload_n hx hb dL_law_113 rfl (lv_at hl 3 rfl) ?_
  refine lv_iload_n hx hb dL_law_114 rfl (lv_at hl 0 rfl) ?_
  refine lv_iconst (v := 1) hx hb dL_law_115 (by decide) ?_
  refine lv_iadd hx hb dL_law_116 ?_
  refine va_sld hx hb hX hbl hbA hS hin1 dL_law_117 ?_
  refine lv_i2c hx hb dL_law_118 rfl ?_
  refine lv_aload_n hx hb dL_law_119 rfl (lv_at hl 3 rfl) ?_
  refine lv_iload_n hx hb dL_law_120 rfl (lv_at hl 0 rfl) ?_
  refine lv_iconst (v := 2) hx hb dL_law_121 (by decide) ?_
  refine lv_iadd hx hb dL_law_122 ?_
  refine va_sld hx hb hX hbl hbA hS hin2 dL_law_123 ?_
  refine ab_callW (x := 17) (kd := 1) (y := 84) (M' := mX8_symbol) (as := [.inr (.inr 50), .inl (lw_char (xs (i + 1).toNatClampNeg)), .inl (xs (i + 2).toNatClampNeg)]) (r := []) (v := some (.inl v2)) (st := [.inl (xs (i + 2).toNatClampNeg), .inl (lw_char (xs (i + 1).toNatClampNeg)), .inr (.inr 50)]) F rfl dL_law_124 rfl rfl (ev0_Ct (List.mem_of_getElem? (i := 84) rfl) (Nat.le_of_ble_eq_true rfl) h2) (Nat.le_of_ble_eq_true rfl) (Nat.le_of_ble_eq_true rfl) (Nat.le_of_ble_eq_true rfl) (Nat.le_of_ble_eq_true rfl) hz hP hS hl.1 (fun H locs hz hP hS => ?_)
  refine lv_pop hx hb dL_law_127 rfl ?_
  refine lv_goto (tgt := 376) hx hb dL_law_128 (by decide) ?_
  exact k H locs hz hP hS
set_option maxHeartbeats 4000000 in
set_option maxRecDepth 100000 in
theorem lw_c_type {p : Program} {l : Launch} {e : Env} {s : State} {m : MethodId} {below : List Frame} {meth : Method} {c : Code} {b L : Nat} {xs : Nat → Int32} {D : va_G} {ca : Nat → ClassId} {Z : State → Prop} {σ σ1 σ2 : ab_M} {v1 v2 i : Int32} {H : Heap} {locs : List Loc} {ls : Array Slot} (F : ab_Fr p s m #[Value.ref b] meth c code 4 11 false D ca s.heap.size) (hX : va_X b L xs s s.heap) (hbl : b < s.heap.size) (hin1 : vp_in (i + 1) L) (hin2 : vp_in (i + 2) L) (hin3 : vp_in (i + 3) L) (h1 : ev0 mX7_type [.inr (.inr 0), .inr (.inl (lw_long (xs (i + 1).toNatClampNeg) (xs (i + 2).toNatClampNeg))), .inl (xs (i + 3).toNatClampNeg)] σ (some (.inl v1)) σ1) (h2 : ev0 mX8_type [.inr (.inr 50), .inr (.inl (lw_long (xs (i + 1).toNatClampNeg) (xs (i + 2).toNatClampNeg))), .inl (xs (i + 3).toNatClampNeg)] σ1 (some (.inl v2)) σ2) (hz : H.size = s.heap.size + sh0.length) (hP : va_P D vwCl (ab_w s.heap.size ca sh0 σ) H) (hS : va_S (fun q => s.heap.size ≤ q) s.heap H locs) (hl : lv_has ls 4 [(3, .int i), (2, .ref (s.heap.size + 50)), (1, .ref (s.heap.size + 0)), (0, .ref b)])
    (k : ∀ (H : Heap) (locs : List Loc), H.size = s.heap.size + sh0.length → va_P D vwCl (ab_w s.heap.size ca sh0 σ2) H → va_S (fun q => s.heap.size ≤ q) s.heap H locs → W p l e room_1 s m #[Value.ref b] below meth c H locs 62 3719 Z (F0 m 376 ls [])) : W p l e room_1 s m #[Value.ref b] below meth c H locs 62 3719 Z (F0 m 131 ls []) := by
  have hx := F.1
  have hb := F.2.1
  have hown := F.2.2.2.1
  have hts := F.2.2.2.2.1
  have hbA : ¬ (fun q : Nat => s.heap.size ≤ q) b := Nat.not_le.mpr hbl
  refine lv_aload_n hx hb dL_law_131 rfl (lv_at hl 2 rfl) ?_
  refine lv_aload_n hx hb dL_law_132 rfl (lv_at hl 3 rfl) ?_
  refine lv_iload_n hx hb dL_law_133 rfl (lv_at hl 0 rfl) ?_
  refine lv_iconst (v := 1) hx hb dL_law_134 (by decide) ?_
  refine lv_iadd hx hb dL_law_135 ?_
  refine va_sld hx hb hX hbl hbA hS hin1 dL_law_136 ?_
  refine lv_i2l hx hb dL_law_137 rfl ?_
  refine lv_bipush (v := 32) hx hb dL_law_138 (by decide) ?_
  refine lv_lshl hx hb dL_law_140 rfl ?_
  refine lv_aload_n hx hb dL_law_141 rfl (lv_at hl 3 rfl) ?_
  refine lv_iload_n hx hb dL_law_142 rfl (lv_at hl 0 rfl) ?_
  refine lv_iconst (v := 2) hx hb dL_law_143 (by decide) ?_
  refine lv_iadd hx hb dL_law_144 ?_
  refine va_sld hx hb hX hbl hbA hS hin2 dL_law_145 ?_
  refine lv_i2l hx hb dL_law_146 rfl ?_
  refine lv_ldc2 (v := 4294967295) hx hb hown (hts _ (tb_J_ok (o := 11) (x := 18) rfl)) dL_law_147 ?_
  refine lv_land hx hb dL_law_150 ?_
  refine lv_lor hx hb dL_law_151 ?_
  refine lv_aload_n hx hb dL_law_152 rfl (lv_at hl 3 rfl) ?_
  refine lv_iload_n hx hb dL_law_153 rfl (lv_at hl 0 rfl) ?_
  refine lv_iconst (v := 3) hx hb dL_law_154 (by decide) ?_
  refine lv_iadd hx hb dL_law_155 ?_
  refine va_sld hx hb hX hbl hbA hS hin3 dL_law_156 ?_
  refine ab_callW (x := 20) (kd := 1) (y := 14) (M' := mX7_type) (as := [.inr (.inr 0), .inr (.inl (lw_long (xs (i + 1).toNatClampNeg) (xs (i + 2).toNatClampNeg))), .inl (xs (i + 3).toNatClampNeg)]) (r := []) (v := some (.inl v1)) (st := [.inl (xs (i + 3).toNatClampNeg), .inr (.inl (lw_long (xs (i + 1).toNatClampNeg) (xs (i + 2).toNatClampNeg))), .inr (.inr 0)]) F rfl dL_law_157 rfl rfl (ev0_Ct (List.mem_of_getElem? (i := 14) rfl) (Nat.le_of_ble_eq_true rfl) h1) (Nat.le_of_ble_eq_true rfl) (Nat.le_of_ble_eq_true rfl) (Nat.le_of_ble_eq_true rfl) (Nat.le_of_ble_eq_true rfl) hz hP hS hl.1 (fun H locs hz hP hS => ?_)
  refine lv_pop hx hb dL_law_160 rfl ?_
  refine lv_aload_n hx hb dL_law_161 rfl (lv_at hl 1 rfl) ?_
  refine lv_aload_n hx hb dL_law_162 rfl (lv_at hl 3 rfl) ?_
  refine lv_iload_n hx hb dL_law_163 rfl (lv_at hl 0 rfl) ?_
  refine lv_iconst (v := 1) hx hb dL_law_164 (by decide) ?_
  refine lv_iadd hx hb dL_law_165 ?_
  refine va_sld hx hb hX hbl hbA hS hin1 dL_law_166 ?_
  refine lv_i2l hx hb dL_law_167 rfl ?_
  refine lv_bipush (v := 32) hx hb dL_law_168 (by decide) ?_
  refine lv_lshl hx hb dL_law_170 rfl ?_
  refine lv_aload_n hx hb dL_law_171 rfl (lv_at hl 3 rfl) ?_
  refine lv_iload_n hx hb dL_law_172 rfl (lv_at hl 0 rfl) ?_
  refine lv_iconst (v := 2) hx hb dL_law_173 (by decide) ?_
  refine lv_iadd hx hb dL_law_174 ?_
  refine va_sld hx hb hX hbl hbA hS hin2 dL_law_175 ?_
  refine lv_i2l hx hb dL_law_176 rfl ?_
  refine lv_ldc2 (v := 4294967295) hx hb hown (hts _ (tb_J_ok (o := 11) (x := 18) rfl)) dL_law_177 ?_
  refine lv_land hx hb dL_law_180 ?_
  refine lv_lor hx hb dL_law_181 ?_
  refine lv_aload_n hx hb dL_law_182 rfl (lv_at hl 3 rfl) ?_
  refine lv_iload_n hx hb dL_law_183 rfl (lv_at hl 0 rfl) ?_
  refine lv_iconst (v := 3) hx hb dL_law_184 (by decide) ?_
  refine lv_iadd hx hb dL_law_185 ?_
  refine va_sld hx hb hX hbl hbA hS hin3 dL_law_186 ?_
  refine ab_callW (x := 24) (kd := 1) (y := 86) (M' := mX8_type) (as := [.inr (.inr 50), .inr (.inl (lw_long (xs (i + 1).toNatClampNeg) (xs (i + 2).toNatClampNeg))), .inl (xs (i + 3).toNatClampNeg)]) (r := []) (v := some (.inl v2)) (st := [.inl (xs (i + 3).toNatClampNeg), .inr (.inl (lw_long (xs (i + 1).toNatClampNeg) (xs (i + 2).toNatClampNeg))), .inr (.inr 50)]) F rfl dL_law_187 rfl rfl (ev0_Ct (List.mem_of_getElem? (i := 86) rfl) (Nat.le_of_ble_eq_true rfl) h2) (Nat.le_of_ble_eq_true rfl) (Nat.le_of_ble_eq_true rfl) (Nat.le_of_ble_eq_true rfl) (Nat.le_of_ble_eq_true rfl) hz hP hS hl.1 (fun H locs hz hP hS => ?_)
  refine lv_pop hx hb dL_law_190 rfl ?_
  refine lv_goto (tgt := 376) hx hb dL_law_191 (by decide) ?_
  exact k H locs hz hP hS
set_option maxHeartbeats 4000000 in
set_option maxRecDepth 100000 in
theorem lw_c_clause {p : Program} {l : Launch} {e : Env} {s : State} {m : MethodId} {below : List Frame} {meth : Method} {c : Code} {b L : Nat} {xs : Nat → Int32} {D : va_G} {ca : Nat → ClassId} {Z : State → Prop} {σ σ1 σ2 : ab_M} {v1 v2 i : Int32} {H : Heap} {locs : List Loc} {ls : Array Slot} (F : ab_Fr p s m #[Value.ref b] meth c code 4 11 false D ca s.heap.size) (hX : va_X b L xs s s.heap) (hbl : b < s.heap.size) (hin1 : vp_in (i + 1) L) (hin2 : vp_in (i + 2) L) (hin3 : vp_in (i + 3) L) (h1 : ev0 mX7_clause [.inr (.inr 0)] σ (some (.inl v1)) σ1) (h2 : ev0 mX8_clause [.inr (.inr 50)] σ1 (some (.inl v2)) σ2) (hz : H.size = s.heap.size + sh0.length) (hP : va_P D vwCl (ab_w s.heap.size ca sh0 σ) H) (hS : va_S (fun q => s.heap.size ≤ q) s.heap H locs) (hl : lv_has ls 4 [(3, .int i), (2, .ref (s.heap.size + 50)), (1, .ref (s.heap.size + 0)), (0, .ref b)])
    (k : ∀ (H : Heap) (locs : List Loc), H.size = s.heap.size + sh0.length → va_P D vwCl (ab_w s.heap.size ca sh0 σ2) H → va_S (fun q => s.heap.size ≤ q) s.heap H locs → W p l e room_1 s m #[Value.ref b] below meth c H locs 62 3719 Z (F0 m 376 ls [])) : W p l e room_1 s m #[Value.ref b] below meth c H locs 62 3719 Z (F0 m 194 ls []) := by
  have hx := F.1
  have hb := F.2.1
  have hown := F.2.2.2.1
  have hts := F.2.2.2.2.1
  have hbA : ¬ (fun q : Nat => s.heap.size ≤ q) b := Nat.not_le.mpr hbl
  refine lv_aload_n hx hb dL_law_194 rfl (lv_at hl 2 rfl) ?_
  refine ab_callW (x := 25) (kd := 1) (y := 20) (M' := mX7_clause) (as := [.inr (.inr 0)]) (r := []) (v := some (.inl v1)) (st := [.inr (.inr 0)]) F rfl dL_law_195 rfl rfl (ev0_Ct (List.mem_of_getElem? (i := 20) rfl) (Nat.le_of_ble_eq_true rfl) h1) (Nat.le_of_ble_eq_true rfl) (Nat.le_of_ble_eq_true rfl) (Nat.le_of_ble_eq_true rfl) (Nat.le_of_ble_eq_true rfl) hz hP hS hl.1 (fun H locs hz hP hS => ?_)
  refine lv_pop hx hb dL_law_198 rfl ?_
  refine lv_aload_n hx hb dL_law_199 rfl (lv_at hl 1 rfl) ?_
  refine ab_callW (x := 29) (kd := 1) (y := 87) (M' := mX8_clause) (as := [.inr (.inr 50)]) (r := []) (v := some (.inl v2)) (st := [.inr (.inr 50)]) F rfl dL_law_200 rfl rfl (ev0_Ct (List.mem_of_getElem? (i := 87) rfl) (Nat.le_of_ble_eq_true rfl) h2) (Nat.le_of_ble_eq_true rfl) (Nat.le_of_ble_eq_true rfl) (Nat.le_of_ble_eq_true rfl) (Nat.le_of_ble_eq_true rfl) hz hP hS hl.1 (fun H locs hz hP hS => ?_)
  refine lv_pop hx hb dL_law_203 rfl ?_
  refine lv_goto (tgt := 376) hx hb dL_law_204 (by decide) ?_
  exact k H locs hz hP hS
set_option maxHeartbeats 4000000 in
set_option maxRecDepth 100000 in
theorem lw_c_drop {p : Program} {l : Launch} {e : Env} {s : State} {m : MethodId} {below : List Frame} {meth : Method} {c : Code} {b L : Nat} {xs : Nat → Int32} {D : va_G} {ca : Nat → ClassId} {Z : State → Prop} {σ σ1 σ2 : ab_M} {v1 v2 i : Int32} {H : Heap} {locs : List Loc} {ls : Array Slot} (F : ab_Fr p s m #[Value.ref b] meth c code 4 11 false D ca s.heap.size) (hX : va_X b L xs s s.heap) (hbl : b < s.heap.size) (hin1 : vp_in (i + 1) L) (hin2 : vp_in (i + 2) L) (hin3 : vp_in (i + 3) L) (h1 : ev0 mX7_drop [.inr (.inr 0)] σ (some (.inl v1)) σ1) (h2 : ev0 mX8_drop [.inr (.inr 50)] σ1 (some (.inl v2)) σ2) (hz : H.size = s.heap.size + sh0.length) (hP : va_P D vwCl (ab_w s.heap.size ca sh0 σ) H) (hS : va_S (fun q => s.heap.size ≤ q) s.heap H locs) (hl : lv_has ls 4 [(3, .int i), (2, .ref (s.heap.size + 50)), (1, .ref (s.heap.size + 0)), (0, .ref b)])
    (k : ∀ (H : Heap) (locs : List Loc), H.size = s.heap.size + sh0.length → va_P D vwCl (ab_w s.heap.size ca sh0 σ2) H → va_S (fun q => s.heap.size ≤ q) s.heap H locs → W p l e room_1 s m #[Value.ref b] below meth c H locs 62 3719 Z (F0 m 376 ls [])) : W p l e room_1 s m #[Value.ref b] below meth c H locs 62 3719 Z (F0 m 207 ls []) := by
  have hx := F.1
  have hb := F.2.1
  have hown := F.2.2.2.1
  have hts := F.2.2.2.2.1
  have hbA : ¬ (fun q : Nat => s.heap.size ≤ q) b := Nat.not_le.mpr hbl
  refine lv_aload_n hx hb dL_law_207 rfl (lv_at hl 2 rfl) ?_
  refine ab_callW (x := 30) (kd := 1) (y := 37) (M' := mX7_drop) (as := [.inr (.inr 0)]) (r := []) (v := some (.inl v1)) (st := [.inr (.inr 0)]) F rfl dL_law_208 rfl rfl (ev0_Ct (List.mem_of_getElem? (i := 37) rfl) (Nat.le_of_ble_eq_true rfl) h1) (Nat.le_of_ble_eq_true rfl) (Nat.le_of_ble_eq_true rfl) (Nat.le_of_ble_eq_true rfl) (Nat.le_of_ble_eq_true rfl) hz hP hS hl.1 (fun H locs hz hP hS => ?_)
  refine lv_pop hx hb dL_law_211 rfl ?_
  refine lv_aload_n hx hb dL_law_212 rfl (lv_at hl 1 rfl) ?_
  refine ab_callW (x := 33) (kd := 1) (y := 92) (M' := mX8_drop) (as := [.inr (.inr 50)]) (r := []) (v := some (.inl v2)) (st := [.inr (.inr 50)]) F rfl dL_law_213 rfl rfl (ev0_Ct (List.mem_of_getElem? (i := 92) rfl) (Nat.le_of_ble_eq_true rfl) h2) (Nat.le_of_ble_eq_true rfl) (Nat.le_of_ble_eq_true rfl) (Nat.le_of_ble_eq_true rfl) (Nat.le_of_ble_eq_true rfl) hz hP hS hl.1 (fun H locs hz hP hS => ?_)
  refine lv_pop hx hb dL_law_216 rfl ?_
  refine lv_goto (tgt := 376) hx hb dL_law_217 (by decide) ?_
  exact k H locs hz hP hS
set_option maxHeartbeats 4000000 in
set_option maxRecDepth 100000 in
theorem lw_c_find {p : Program} {l : Launch} {e : Env} {s : State} {m : MethodId} {below : List Frame} {meth : Method} {c : Code} {b L : Nat} {xs : Nat → Int32} {D : va_G} {ca : Nat → ClassId} {Z : State → Prop} {σ σ1 σ2 : ab_M} {v1 v2 i : Int32} {H : Heap} {locs : List Loc} {ls : Array Slot} (F : ab_Fr p s m #[Value.ref b] meth c code 4 11 false D ca s.heap.size) (hX : va_X b L xs s s.heap) (hbl : b < s.heap.size) (hin1 : vp_in (i + 1) L) (hin2 : vp_in (i + 2) L) (hin3 : vp_in (i + 3) L) (h1 : ev0 mX7_find [.inr (.inr 0), .inl (xs (i + 1).toNatClampNeg)] σ (some (.inl v1)) σ1) (h2 : ev0 mX8_find [.inr (.inr 50), .inl (xs (i + 1).toNatClampNeg)] σ1 (some (.inl v2)) σ2) (hz : H.size = s.heap.size + sh0.length) (hP : va_P D vwCl (ab_w s.heap.size ca sh0 σ) H) (hS : va_S (fun q => s.heap.size ≤ q) s.heap H locs) (hl : lv_has ls 4 [(3, .int i), (2, .ref (s.heap.size + 50)), (1, .ref (s.heap.size + 0)), (0, .ref b)])
    (k : ∀ (H : Heap) (locs : List Loc), H.size = s.heap.size + sh0.length → va_P D vwCl (ab_w s.heap.size ca sh0 σ2) H → va_S (fun q => s.heap.size ≤ q) s.heap H locs → W p l e room_1 s m #[Value.ref b] below meth c H locs 62 3719 Z (F0 m 376 ls [])) : W p l e room_1 s m #[Value.ref b] below meth c H locs 62 3719 Z (F0 m 220 ls []) := by
  have hx := F.1
  have hb := F.2.1
  have hown := F.2.2.2.1
  have hts := F.2.2.2.2.1
  have hbA : ¬ (fun q : Nat => s.heap.size ≤ q) b := Nat.not_le.mpr hbl
  refine lv_aload_n hx hb dL_law_220 rfl (lv_at hl 2 rfl) ?_
  refine lv_aload_n hx hb dL_law_221 rfl (lv_at hl 3 rfl) ?_
  refine lv_iload_n hx hb dL_law_222 rfl (lv_at hl 0 rfl) ?_
  refine lv_iconst (v := 1) hx hb dL_law_223 (by decide) ?_
  refine lv_iadd hx hb dL_law_224 ?_
  refine va_sld hx hb hX hbl hbA hS hin1 dL_law_225 ?_
  refine ab_callW (x := 34) (kd := 1) (y := 40) (M' := mX7_find) (as := [.inr (.inr 0), .inl (xs (i + 1).toNatClampNeg)]) (r := []) (v := some (.inl v1)) (st := [.inl (xs (i + 1).toNatClampNeg), .inr (.inr 0)]) F rfl dL_law_226 rfl rfl (ev0_Ct (List.mem_of_getElem? (i := 40) rfl) (Nat.le_of_ble_eq_true rfl) h1) (Nat.le_of_ble_eq_true rfl) (Nat.le_of_ble_eq_true rfl) (Nat.le_of_ble_eq_true rfl) (Nat.le_of_ble_eq_true rfl) hz hP hS hl.1 (fun H locs hz hP hS => ?_)
  refine lv_pop hx hb dL_law_229 rfl ?_
  refine lv_aload_n hx hb dL_law_230 rfl (lv_at hl 1 rfl) ?_
  refine lv_aload_n hx hb dL_law_231 rfl (lv_at hl 3 rfl) ?_
  refine lv_iload_n hx hb dL_law_232 rfl (lv_at hl 0 rfl) ?_
  refine lv_iconst (v := 1) hx hb dL_law_233 (by decide) ?_
  refine lv_iadd hx hb dL_law_234 ?_
  refine va_sld hx hb hX hbl hbA hS hin1 dL_law_235 ?_
  refine ab_callW (x := 38) (kd := 1) (y := 93) (M' := mX8_find) (as := [.inr (.inr 50), .inl (xs (i + 1).toNatClampNeg)]) (r := []) (v := some (.inl v2)) (st := [.inl (xs (i + 1).toNatClampNeg), .inr (.inr 50)]) F rfl dL_law_236 rfl rfl (ev0_Ct (List.mem_of_getElem? (i := 93) rfl) (Nat.le_of_ble_eq_true rfl) h2) (Nat.le_of_ble_eq_true rfl) (Nat.le_of_ble_eq_true rfl) (Nat.le_of_ble_eq_true rfl) (Nat.le_of_ble_eq_true rfl) hz hP hS hl.1 (fun H locs hz hP hS => ?_)
  refine lv_pop hx hb dL_law_239 rfl ?_
  refine lv_goto (tgt := 376) hx hb dL_law_240 (by decide) ?_
  exact k H locs hz hP hS
set_option maxHeartbeats 4000000 in
set_option maxRecDepth 100000 in
theorem lw_c_more {p : Program} {l : Launch} {e : Env} {s : State} {m : MethodId} {below : List Frame} {meth : Method} {c : Code} {b L : Nat} {xs : Nat → Int32} {D : va_G} {ca : Nat → ClassId} {Z : State → Prop} {σ σ1 σ2 : ab_M} {v1 v2 i : Int32} {H : Heap} {locs : List Loc} {ls : Array Slot} (F : ab_Fr p s m #[Value.ref b] meth c code 4 11 false D ca s.heap.size) (hX : va_X b L xs s s.heap) (hbl : b < s.heap.size) (hin1 : vp_in (i + 1) L) (hin2 : vp_in (i + 2) L) (hin3 : vp_in (i + 3) L) (h1 : ev0 mX7_more [.inr (.inr 0)] σ (some (.inl v1)) σ1) (h2 : ev0 mX8_more [.inr (.inr 50)] σ1 (some (.inl v2)) σ2) (hz : H.size = s.heap.size + sh0.length) (hP : va_P D vwCl (ab_w s.heap.size ca sh0 σ) H) (hS : va_S (fun q => s.heap.size ≤ q) s.heap H locs) (hl : lv_has ls 4 [(3, .int i), (2, .ref (s.heap.size + 50)), (1, .ref (s.heap.size + 0)), (0, .ref b)])
    (k : ∀ (H : Heap) (locs : List Loc), H.size = s.heap.size + sh0.length → va_P D vwCl (ab_w s.heap.size ca sh0 σ2) H → va_S (fun q => s.heap.size ≤ q) s.heap H locs → W p l e room_1 s m #[Value.ref b] below meth c H locs 62 3719 Z (F0 m 376 ls [])) : W p l e room_1 s m #[Value.ref b] below meth c H locs 62 3719 Z (F0 m 243 ls []) := by
  have hx := F.1
  have hb := F.2.1
  have hown := F.2.2.2.1
  have hts := F.2.2.2.2.1
  have hbA : ¬ (fun q : Nat => s.heap.size ≤ q) b := Nat.not_le.mpr hbl
  refine lv_aload_n hx hb dL_law_243 rfl (lv_at hl 2 rfl) ?_
  refine ab_callW (x := 39) (kd := 1) (y := 72) (M' := mX7_more) (as := [.inr (.inr 0)]) (r := []) (v := some (.inl v1)) (st := [.inr (.inr 0)]) F rfl dL_law_244 rfl rfl (ev0_Ct (List.mem_of_getElem? (i := 72) rfl) (Nat.le_of_ble_eq_true rfl) h1) (Nat.le_of_ble_eq_true rfl) (Nat.le_of_ble_eq_true rfl) (Nat.le_of_ble_eq_true rfl) (Nat.le_of_ble_eq_true rfl) hz hP hS hl.1 (fun H locs hz hP hS => ?_)
  refine lv_pop hx hb dL_law_247 rfl ?_
  refine lv_aload_n hx hb dL_law_248 rfl (lv_at hl 1 rfl) ?_
  refine ab_callW (x := 42) (kd := 1) (y := 106) (M' := mX8_more) (as := [.inr (.inr 50)]) (r := []) (v := some (.inl v2)) (st := [.inr (.inr 50)]) F rfl dL_law_249 rfl rfl (ev0_Ct (List.mem_of_getElem? (i := 106) rfl) (Nat.le_of_ble_eq_true rfl) h2) (Nat.le_of_ble_eq_true rfl) (Nat.le_of_ble_eq_true rfl) (Nat.le_of_ble_eq_true rfl) (Nat.le_of_ble_eq_true rfl) hz hP hS hl.1 (fun H locs hz hP hS => ?_)
  refine lv_pop hx hb dL_law_252 rfl ?_
  refine lv_goto (tgt := 376) hx hb dL_law_253 (by decide) ?_
  exact k H locs hz hP hS
set_option maxHeartbeats 4000000 in
set_option maxRecDepth 100000 in
theorem lw_c_size {p : Program} {l : Launch} {e : Env} {s : State} {m : MethodId} {below : List Frame} {meth : Method} {c : Code} {b L : Nat} {xs : Nat → Int32} {D : va_G} {ca : Nat → ClassId} {Z : State → Prop} {σ σ1 σ2 : ab_M} {v1 v2 i : Int32} {H : Heap} {locs : List Loc} {ls : Array Slot} (F : ab_Fr p s m #[Value.ref b] meth c code 4 11 false D ca s.heap.size) (hX : va_X b L xs s s.heap) (hbl : b < s.heap.size) (hin1 : vp_in (i + 1) L) (hin2 : vp_in (i + 2) L) (hin3 : vp_in (i + 3) L) (h1 : ev0 mX7_size [.inr (.inr 0)] σ (some (.inl v1)) σ1) (h2 : ev0 mX8_size [.inr (.inr 50)] σ1 (some (.inl v2)) σ2) (hz : H.size = s.heap.size + sh0.length) (hP : va_P D vwCl (ab_w s.heap.size ca sh0 σ) H) (hS : va_S (fun q => s.heap.size ≤ q) s.heap H locs) (hl : lv_has ls 4 [(3, .int i), (2, .ref (s.heap.size + 50)), (1, .ref (s.heap.size + 0)), (0, .ref b)])
    (k : ∀ (H : Heap) (locs : List Loc), H.size = s.heap.size + sh0.length → va_P D vwCl (ab_w s.heap.size ca sh0 σ2) H → va_S (fun q => s.heap.size ≤ q) s.heap H locs → W p l e room_1 s m #[Value.ref b] below meth c H locs 62 3719 Z (F0 m 376 ls [])) : W p l e room_1 s m #[Value.ref b] below meth c H locs 62 3719 Z (F0 m 256 ls []) := by
  have hx := F.1
  have hb := F.2.1
  have hown := F.2.2.2.1
  have hts := F.2.2.2.2.1
  have hbA : ¬ (fun q : Nat => s.heap.size ≤ q) b := Nat.not_le.mpr hbl
  refine lv_aload_n hx hb dL_law_256 rfl (lv_at hl 2 rfl) ?_
  refine ab_callW (x := 43) (kd := 1) (y := 74) (M' := mX7_size) (as := [.inr (.inr 0)]) (r := []) (v := some (.inl v1)) (st := [.inr (.inr 0)]) F rfl dL_law_257 rfl rfl (ev0_Ct (List.mem_of_getElem? (i := 74) rfl) (Nat.le_of_ble_eq_true rfl) h1) (Nat.le_of_ble_eq_true rfl) (Nat.le_of_ble_eq_true rfl) (Nat.le_of_ble_eq_true rfl) (Nat.le_of_ble_eq_true rfl) hz hP hS hl.1 (fun H locs hz hP hS => ?_)
  refine lv_pop hx hb dL_law_260 rfl ?_
  refine lv_aload_n hx hb dL_law_261 rfl (lv_at hl 1 rfl) ?_
  refine ab_callW (x := 46) (kd := 1) (y := 107) (M' := mX8_size) (as := [.inr (.inr 50)]) (r := []) (v := some (.inl v2)) (st := [.inr (.inr 50)]) F rfl dL_law_262 rfl rfl (ev0_Ct (List.mem_of_getElem? (i := 107) rfl) (Nat.le_of_ble_eq_true rfl) h2) (Nat.le_of_ble_eq_true rfl) (Nat.le_of_ble_eq_true rfl) (Nat.le_of_ble_eq_true rfl) (Nat.le_of_ble_eq_true rfl) hz hP hS hl.1 (fun H locs hz hP hS => ?_)
  refine lv_pop hx hb dL_law_265 rfl ?_
  refine lv_goto (tgt := 376) hx hb dL_law_266 (by decide) ?_
  exact k H locs hz hP hS
set_option maxHeartbeats 4000000 in
set_option maxRecDepth 100000 in
theorem lw_c_value {p : Program} {l : Launch} {e : Env} {s : State} {m : MethodId} {below : List Frame} {meth : Method} {c : Code} {b L : Nat} {xs : Nat → Int32} {D : va_G} {ca : Nat → ClassId} {Z : State → Prop} {σ σ1 σ2 : ab_M} {v1 v2 i : Int32} {H : Heap} {locs : List Loc} {ls : Array Slot} (F : ab_Fr p s m #[Value.ref b] meth c code 4 11 false D ca s.heap.size) (hX : va_X b L xs s s.heap) (hbl : b < s.heap.size) (hin1 : vp_in (i + 1) L) (hin2 : vp_in (i + 2) L) (hin3 : vp_in (i + 3) L) (h1 : ev0 mX7_value [.inr (.inr 0), .inl (lw_char (xs (i + 1).toNatClampNeg)), .inl (xs (i + 2).toNatClampNeg), .inl (xs (i + 3).toNatClampNeg)] σ (some (.inl v1)) σ1) (h2 : ev0 mX8_value [.inr (.inr 50), .inl (lw_char (xs (i + 1).toNatClampNeg)), .inl (xs (i + 2).toNatClampNeg), .inl (xs (i + 3).toNatClampNeg)] σ1 (some (.inl v2)) σ2) (hz : H.size = s.heap.size + sh0.length) (hP : va_P D vwCl (ab_w s.heap.size ca sh0 σ) H) (hS : va_S (fun q => s.heap.size ≤ q) s.heap H locs) (hl : lv_has ls 4 [(3, .int i), (2, .ref (s.heap.size + 50)), (1, .ref (s.heap.size + 0)), (0, .ref b)])
    (k : ∀ (H : Heap) (locs : List Loc), H.size = s.heap.size + sh0.length → va_P D vwCl (ab_w s.heap.size ca sh0 σ2) H → va_S (fun q => s.heap.size ≤ q) s.heap H locs → W p l e room_1 s m #[Value.ref b] below meth c H locs 62 3719 Z (F0 m 376 ls [])) : W p l e room_1 s m #[Value.ref b] below meth c H locs 62 3719 Z (F0 m 269 ls []) := by
  have hx := F.1
  have hb := F.2.1
  have hown := F.2.2.2.1
  have hts := F.2.2.2.2.1
  have hbA : ¬ (fun q : Nat => s.heap.size ≤ q) b := Nat.not_le.mpr hbl
  refine lv_aload_n hx hb dL_law_269 rfl (lv_at hl 2 rfl) ?_
  refine lv_aload_n hx hb dL_law_270 rfl (lv_at hl 3 rfl) ?_
  refine lv_iload_n hx hb dL_law_271 rfl (lv_at hl 0 rfl) ?_
  refine lv_iconst (v := 1) hx hb dL_law_272 (by decide) ?_
  refine lv_iadd hx hb dL_law_273 ?_
  refine va_sld hx hb hX hbl hbA hS hin1 dL_law_274 ?_
  refine lv_i2c hx hb dL_law_275 rfl ?_
  refine lv_aload_n hx hb dL_law_276 rfl (lv_at hl 3 rfl) ?_
  refine lv_iload_n hx hb dL_law_277 rfl (lv_at hl 0 rfl) ?_
  refine lv_iconst (v := 2) hx hb dL_law_278 (by decide) ?_
  refine lv_iadd hx hb dL_law_279 ?_
  refine va_sld hx hb hX hbl hbA hS hin2 dL_law_280 ?_
  refine lv_aload_n hx hb dL_law_281 rfl (lv_at hl 3 rfl) ?_
  refine lv_iload_n hx hb dL_law_282 rfl (lv_at hl 0 rfl) ?_
  refine lv_iconst (v := 3) hx hb dL_law_283 (by decide) ?_
  refine lv_iadd hx hb dL_law_284 ?_
  refine va_sld hx hb hX hbl hbA hS hin3 dL_law_285 ?_
  refine ab_callW (x := 47) (kd := 1) (y := 75) (M' := mX7_value) (as := [.inr (.inr 0), .inl (lw_char (xs (i + 1).toNatClampNeg)), .inl (xs (i + 2).toNatClampNeg), .inl (xs (i + 3).toNatClampNeg)]) (r := []) (v := some (.inl v1)) (st := [.inl (xs (i + 3).toNatClampNeg), .inl (xs (i + 2).toNatClampNeg), .inl (lw_char (xs (i + 1).toNatClampNeg)), .inr (.inr 0)]) F rfl dL_law_286 rfl rfl (ev0_Ct (List.mem_of_getElem? (i := 75) rfl) (Nat.le_of_ble_eq_true rfl) h1) (Nat.le_of_ble_eq_true rfl) (Nat.le_of_ble_eq_true rfl) (Nat.le_of_ble_eq_true rfl) (Nat.le_of_ble_eq_true rfl) hz hP hS hl.1 (fun H locs hz hP hS => ?_)
  refine lv_pop hx hb dL_law_289 rfl ?_
  refine lv_aload_n hx hb dL_law_290 rfl (lv_at hl 1 rfl) ?_
  refine lv_aload_n hx hb dL_law_291 rfl (lv_at hl 3 rfl) ?_
  refine lv_iload_n hx hb dL_law_292 rfl (lv_at hl 0 rfl) ?_
  refine lv_iconst (v := 1) hx hb dL_law_293 (by decide) ?_
  refine lv_iadd hx hb dL_law_294 ?_
  refine va_sld hx hb hX hbl hbA hS hin1 dL_law_295 ?_
  refine lv_i2c hx hb dL_law_296 rfl ?_
  refine lv_aload_n hx hb dL_law_297 rfl (lv_at hl 3 rfl) ?_
  refine lv_iload_n hx hb dL_law_298 rfl (lv_at hl 0 rfl) ?_
  refine lv_iconst (v := 2) hx hb dL_law_299 (by decide) ?_
  refine lv_iadd hx hb dL_law_300 ?_
  refine va_sld hx hb hX hbl hbA hS hin2 dL_law_301 ?_
  refine lv_aload_n hx hb dL_law_302 rfl (lv_at hl 3 rfl) ?_
  refine lv_iload_n hx hb dL_law_303 rfl (lv_at hl 0 rfl) ?_
  refine lv_iconst (v := 3) hx hb dL_law_304 (by decide) ?_
  refine lv_iadd hx hb dL_law_305 ?_
  refine va_sld hx hb hX hbl hbA hS hin3 dL_law_306 ?_
  refine ab_callW (x := 51) (kd := 1) (y := 108) (M' := mX8_value) (as := [.inr (.inr 50), .inl (lw_char (xs (i + 1).toNatClampNeg)), .inl (xs (i + 2).toNatClampNeg), .inl (xs (i + 3).toNatClampNeg)]) (r := []) (v := some (.inl v2)) (st := [.inl (xs (i + 3).toNatClampNeg), .inl (xs (i + 2).toNatClampNeg), .inl (lw_char (xs (i + 1).toNatClampNeg)), .inr (.inr 50)]) F rfl dL_law_307 rfl rfl (ev0_Ct (List.mem_of_getElem? (i := 108) rfl) (Nat.le_of_ble_eq_true rfl) h2) (Nat.le_of_ble_eq_true rfl) (Nat.le_of_ble_eq_true rfl) (Nat.le_of_ble_eq_true rfl) (Nat.le_of_ble_eq_true rfl) hz hP hS hl.1 (fun H locs hz hP hS => ?_)
  refine lv_pop hx hb dL_law_310 rfl ?_
  refine lv_goto (tgt := 376) hx hb dL_law_311 (by decide) ?_
  exact k H locs hz hP hS
set_option maxHeartbeats 4000000 in
set_option maxRecDepth 100000 in
theorem lw_c_tries {p : Program} {l : Launch} {e : Env} {s : State} {m : MethodId} {below : List Frame} {meth : Method} {c : Code} {b L : Nat} {xs : Nat → Int32} {D : va_G} {ca : Nat → ClassId} {Z : State → Prop} {σ σ1 σ2 : ab_M} {v1 v2 i : Int32} {H : Heap} {locs : List Loc} {ls : Array Slot} (F : ab_Fr p s m #[Value.ref b] meth c code 4 11 false D ca s.heap.size) (hX : va_X b L xs s s.heap) (hbl : b < s.heap.size) (hin1 : vp_in (i + 1) L) (hin2 : vp_in (i + 2) L) (hin3 : vp_in (i + 3) L) (h1 : ev0 mX7_tries [.inr (.inr 0)] σ (some (.inl v1)) σ1) (h2 : ev0 mX8_tries [.inr (.inr 50)] σ1 (some (.inl v2)) σ2) (hz : H.size = s.heap.size + sh0.length) (hP : va_P D vwCl (ab_w s.heap.size ca sh0 σ) H) (hS : va_S (fun q => s.heap.size ≤ q) s.heap H locs) (hl : lv_has ls 4 [(3, .int i), (2, .ref (s.heap.size + 50)), (1, .ref (s.heap.size + 0)), (0, .ref b)])
    (k : ∀ (H : Heap) (locs : List Loc), H.size = s.heap.size + sh0.length → va_P D vwCl (ab_w s.heap.size ca sh0 σ2) H → va_S (fun q => s.heap.size ≤ q) s.heap H locs → W p l e room_1 s m #[Value.ref b] below meth c H locs 62 3719 Z (F0 m 376 ls [])) : W p l e room_1 s m #[Value.ref b] below meth c H locs 62 3719 Z (F0 m 314 ls []) := by
  have hx := F.1
  have hb := F.2.1
  have hown := F.2.2.2.1
  have hts := F.2.2.2.2.1
  have hbA : ¬ (fun q : Nat => s.heap.size ≤ q) b := Nat.not_le.mpr hbl
  refine lv_aload_n hx hb dL_law_314 rfl (lv_at hl 2 rfl) ?_
  refine ab_callW (x := 52) (kd := 1) (y := 77) (M' := mX7_tries) (as := [.inr (.inr 0)]) (r := []) (v := some (.inl v1)) (st := [.inr (.inr 0)]) F rfl dL_law_315 rfl rfl (ev0_Ct (List.mem_of_getElem? (i := 77) rfl) (Nat.le_of_ble_eq_true rfl) h1) (Nat.le_of_ble_eq_true rfl) (Nat.le_of_ble_eq_true rfl) (Nat.le_of_ble_eq_true rfl) (Nat.le_of_ble_eq_true rfl) hz hP hS hl.1 (fun H locs hz hP hS => ?_)
  refine lv_pop hx hb dL_law_318 rfl ?_
  refine lv_aload_n hx hb dL_law_319 rfl (lv_at hl 1 rfl) ?_
  refine ab_callW (x := 55) (kd := 1) (y := 109) (M' := mX8_tries) (as := [.inr (.inr 50)]) (r := []) (v := some (.inl v2)) (st := [.inr (.inr 50)]) F rfl dL_law_320 rfl rfl (ev0_Ct (List.mem_of_getElem? (i := 109) rfl) (Nat.le_of_ble_eq_true rfl) h2) (Nat.le_of_ble_eq_true rfl) (Nat.le_of_ble_eq_true rfl) (Nat.le_of_ble_eq_true rfl) (Nat.le_of_ble_eq_true rfl) hz hP hS hl.1 (fun H locs hz hP hS => ?_)
  refine lv_pop hx hb dL_law_323 rfl ?_
  refine lv_goto (tgt := 376) hx hb dL_law_324 (by decide) ?_
  exact k H locs hz hP hS
set_option maxHeartbeats 4000000 in
set_option maxRecDepth 100000 in
theorem lw_c_check {p : Program} {l : Launch} {e : Env} {s : State} {m : MethodId} {below : List Frame} {meth : Method} {c : Code} {b L : Nat} {xs : Nat → Int32} {D : va_G} {ca : Nat → ClassId} {Z : State → Prop} {σ σ1 σ2 : ab_M} {v1 v2 i : Int32} {H : Heap} {locs : List Loc} {ls : Array Slot} (F : ab_Fr p s m #[Value.ref b] meth c code 4 11 false D ca s.heap.size) (hX : va_X b L xs s s.heap) (hbl : b < s.heap.size) (hin1 : vp_in (i + 1) L) (hin2 : vp_in (i + 2) L) (hin3 : vp_in (i + 3) L) (h1 : ev0 mX7_check [.inr (.inr 0)] σ (some (.inl v1)) σ1) (h2 : ev0 mX8_check [.inr (.inr 50)] σ1 (some (.inl v2)) σ2) (hz : H.size = s.heap.size + sh0.length) (hP : va_P D vwCl (ab_w s.heap.size ca sh0 σ) H) (hS : va_S (fun q => s.heap.size ≤ q) s.heap H locs) (hl : lv_has ls 4 [(3, .int i), (2, .ref (s.heap.size + 50)), (1, .ref (s.heap.size + 0)), (0, .ref b)])
    (k : ∀ (H : Heap) (locs : List Loc), H.size = s.heap.size + sh0.length → va_P D vwCl (ab_w s.heap.size ca sh0 σ2) H → va_S (fun q => s.heap.size ≤ q) s.heap H locs → W p l e room_1 s m #[Value.ref b] below meth c H locs 62 3719 Z (F0 m 376 ls [])) : W p l e room_1 s m #[Value.ref b] below meth c H locs 62 3719 Z (F0 m 327 ls []) := by
  have hx := F.1
  have hb := F.2.1
  have hown := F.2.2.2.1
  have hts := F.2.2.2.2.1
  have hbA : ¬ (fun q : Nat => s.heap.size ≤ q) b := Nat.not_le.mpr hbl
  refine lv_aload_n hx hb dL_law_327 rfl (lv_at hl 2 rfl) ?_
  refine ab_callW (x := 56) (kd := 1) (y := 79) (M' := mX7_check) (as := [.inr (.inr 0)]) (r := []) (v := some (.inl v1)) (st := [.inr (.inr 0)]) F rfl dL_law_328 rfl rfl (ev0_Ct (List.mem_of_getElem? (i := 79) rfl) (Nat.le_of_ble_eq_true rfl) h1) (Nat.le_of_ble_eq_true rfl) (Nat.le_of_ble_eq_true rfl) (Nat.le_of_ble_eq_true rfl) (Nat.le_of_ble_eq_true rfl) hz hP hS hl.1 (fun H locs hz hP hS => ?_)
  refine lv_pop hx hb dL_law_331 rfl ?_
  refine lv_aload_n hx hb dL_law_332 rfl (lv_at hl 1 rfl) ?_
  refine ab_callW (x := 59) (kd := 1) (y := 110) (M' := mX8_check) (as := [.inr (.inr 50)]) (r := []) (v := some (.inl v2)) (st := [.inr (.inr 50)]) F rfl dL_law_333 rfl rfl (ev0_Ct (List.mem_of_getElem? (i := 110) rfl) (Nat.le_of_ble_eq_true rfl) h2) (Nat.le_of_ble_eq_true rfl) (Nat.le_of_ble_eq_true rfl) (Nat.le_of_ble_eq_true rfl) (Nat.le_of_ble_eq_true rfl) hz hP hS hl.1 (fun H locs hz hP hS => ?_)
  refine lv_pop hx hb dL_law_336 rfl ?_
  refine lv_goto (tgt := 376) hx hb dL_law_337 (by decide) ?_
  exact k H locs hz hP hS
set_option maxHeartbeats 4000000 in
set_option maxRecDepth 100000 in
theorem lw_c_caseOf {p : Program} {l : Launch} {e : Env} {s : State} {m : MethodId} {below : List Frame} {meth : Method} {c : Code} {b L : Nat} {xs : Nat → Int32} {D : va_G} {ca : Nat → ClassId} {Z : State → Prop} {σ σ1 σ2 : ab_M} {v1 v2 i : Int32} {H : Heap} {locs : List Loc} {ls : Array Slot} (F : ab_Fr p s m #[Value.ref b] meth c code 4 11 false D ca s.heap.size) (hX : va_X b L xs s s.heap) (hbl : b < s.heap.size) (hin1 : vp_in (i + 1) L) (hin2 : vp_in (i + 2) L) (hin3 : vp_in (i + 3) L) (h1 : ev0 mX7_caseOf [.inr (.inr 0), .inl (xs (i + 1).toNatClampNeg)] σ (some (.inl v1)) σ1) (h2 : ev0 mX8_caseOf [.inr (.inr 50), .inl (xs (i + 1).toNatClampNeg)] σ1 (some (.inl v2)) σ2) (heq : v1 = v2) (hz : H.size = s.heap.size + sh0.length) (hP : va_P D vwCl (ab_w s.heap.size ca sh0 σ) H) (hS : va_S (fun q => s.heap.size ≤ q) s.heap H locs) (hl : lv_has ls 4 [(3, .int i), (2, .ref (s.heap.size + 50)), (1, .ref (s.heap.size + 0)), (0, .ref b)])
    (k : ∀ (H : Heap) (locs : List Loc), H.size = s.heap.size + sh0.length → va_P D vwCl (ab_w s.heap.size ca sh0 σ2) H → va_S (fun q => s.heap.size ≤ q) s.heap H locs → W p l e room_1 s m #[Value.ref b] below meth c H locs 62 3719 Z (F0 m 376 ls [])) : W p l e room_1 s m #[Value.ref b] below meth c H locs 62 3719 Z (F0 m 340 ls []) := by
  have hx := F.1
  have hb := F.2.1
  have hown := F.2.2.2.1
  have hts := F.2.2.2.2.1
  have hbA : ¬ (fun q : Nat => s.heap.size ≤ q) b := Nat.not_le.mpr hbl
  refine lv_aload_n hx hb dL_law_340 rfl (lv_at hl 2 rfl) ?_
  refine lv_aload_n hx hb dL_law_341 rfl (lv_at hl 3 rfl) ?_
  refine lv_iload_n hx hb dL_law_342 rfl (lv_at hl 0 rfl) ?_
  refine lv_iconst (v := 1) hx hb dL_law_343 (by decide) ?_
  refine lv_iadd hx hb dL_law_344 ?_
  refine va_sld hx hb hX hbl hbA hS hin1 dL_law_345 ?_
  refine ab_callW (x := 60) (kd := 1) (y := 81) (M' := mX7_caseOf) (as := [.inr (.inr 0), .inl (xs (i + 1).toNatClampNeg)]) (r := []) (v := some (.inl v1)) (st := [.inl (xs (i + 1).toNatClampNeg), .inr (.inr 0)]) F rfl dL_law_346 rfl rfl (ev0_Ct (List.mem_of_getElem? (i := 81) rfl) (Nat.le_of_ble_eq_true rfl) h1) (Nat.le_of_ble_eq_true rfl) (Nat.le_of_ble_eq_true rfl) (Nat.le_of_ble_eq_true rfl) (Nat.le_of_ble_eq_true rfl) hz hP hS hl.1 (fun H locs hz hP hS => ?_)
  refine lv_aload_n hx hb dL_law_349 rfl (lv_at hl 1 rfl) ?_
  refine lv_aload_n hx hb dL_law_350 rfl (lv_at hl 3 rfl) ?_
  refine lv_iload_n hx hb dL_law_351 rfl (lv_at hl 0 rfl) ?_
  refine lv_iconst (v := 1) hx hb dL_law_352 (by decide) ?_
  refine lv_iadd hx hb dL_law_353 ?_
  refine va_sld hx hb hX hbl hbA hS hin1 dL_law_354 ?_
  refine ab_callW (x := 63) (kd := 1) (y := 111) (M' := mX8_caseOf) (as := [.inr (.inr 50), .inl (xs (i + 1).toNatClampNeg)]) (r := [.inl v1]) (v := some (.inl v2)) (st := [.inl (xs (i + 1).toNatClampNeg), .inr (.inr 50), .inl v1]) F rfl dL_law_355 rfl rfl (ev0_Ct (List.mem_of_getElem? (i := 111) rfl) (Nat.le_of_ble_eq_true rfl) h2) (Nat.le_of_ble_eq_true rfl) (Nat.le_of_ble_eq_true rfl) (Nat.le_of_ble_eq_true rfl) (Nat.le_of_ble_eq_true rfl) hz hP hS hl.1 (fun H locs hz hP hS => ?_)
  refine lv_icmp_eq (tgt := 376) hx hb dL_law_358 (by decide) (fun _ => ?_) (fun hne => absurd heq hne)
  exact k H locs hz hP hS
set_option maxHeartbeats 4000000 in
set_option maxRecDepth 100000 in
theorem lw_c_clauses {p : Program} {l : Launch} {e : Env} {s : State} {m : MethodId} {below : List Frame} {meth : Method} {c : Code} {b L : Nat} {xs : Nat → Int32} {D : va_G} {ca : Nat → ClassId} {Z : State → Prop} {σ σ1 σ2 : ab_M} {v1 v2 i : Int32} {H : Heap} {locs : List Loc} {ls : Array Slot} (F : ab_Fr p s m #[Value.ref b] meth c code 4 11 false D ca s.heap.size) (hX : va_X b L xs s s.heap) (hbl : b < s.heap.size) (hin1 : vp_in (i + 1) L) (hin2 : vp_in (i + 2) L) (hin3 : vp_in (i + 3) L) (h1 : ev0 mX7_clauses [.inr (.inr 0)] σ (some (.inl v1)) σ1) (h2 : ev0 mX8_clauses [.inr (.inr 50)] σ1 (some (.inl v2)) σ2) (hz : H.size = s.heap.size + sh0.length) (hP : va_P D vwCl (ab_w s.heap.size ca sh0 σ) H) (hS : va_S (fun q => s.heap.size ≤ q) s.heap H locs) (hl : lv_has ls 4 [(3, .int i), (2, .ref (s.heap.size + 50)), (1, .ref (s.heap.size + 0)), (0, .ref b)])
    (k : ∀ (H : Heap) (locs : List Loc), H.size = s.heap.size + sh0.length → va_P D vwCl (ab_w s.heap.size ca sh0 σ2) H → va_S (fun q => s.heap.size ≤ q) s.heap H locs → W p l e room_1 s m #[Value.ref b] below meth c H locs 62 3719 Z (F0 m 376 ls [])) : W p l e room_1 s m #[Value.ref b] below meth c H locs 62 3719 Z (F0 m 363 ls []) := by
  have hx := F.1
  have hb := F.2.1
  have hown := F.2.2.2.1
  have hts := F.2.2.2.2.1
  have hbA : ¬ (fun q : Nat => s.heap.size ≤ q) b := Nat.not_le.mpr hbl
  refine lv_aload_n hx hb dL_law_363 rfl (lv_at hl 2 rfl) ?_
  refine ab_callW (x := 64) (kd := 1) (y := 82) (M' := mX7_clauses) (as := [.inr (.inr 0)]) (r := []) (v := some (.inl v1)) (st := [.inr (.inr 0)]) F rfl dL_law_364 rfl rfl (ev0_Ct (List.mem_of_getElem? (i := 82) rfl) (Nat.le_of_ble_eq_true rfl) h1) (Nat.le_of_ble_eq_true rfl) (Nat.le_of_ble_eq_true rfl) (Nat.le_of_ble_eq_true rfl) (Nat.le_of_ble_eq_true rfl) hz hP hS hl.1 (fun H locs hz hP hS => ?_)
  refine lv_pop hx hb dL_law_367 rfl ?_
  refine lv_aload_n hx hb dL_law_368 rfl (lv_at hl 1 rfl) ?_
  refine ab_callW (x := 67) (kd := 1) (y := 112) (M' := mX8_clauses) (as := [.inr (.inr 50)]) (r := []) (v := some (.inl v2)) (st := [.inr (.inr 50)]) F rfl dL_law_369 rfl rfl (ev0_Ct (List.mem_of_getElem? (i := 112) rfl) (Nat.le_of_ble_eq_true rfl) h2) (Nat.le_of_ble_eq_true rfl) (Nat.le_of_ble_eq_true rfl) (Nat.le_of_ble_eq_true rfl) (Nat.le_of_ble_eq_true rfl) hz hP hS hl.1 (fun H locs hz hP hS => ?_)
  refine lv_pop hx hb dL_law_372 rfl ?_
  refine lv_goto (tgt := 376) hx hb dL_law_373 (by decide) ?_
  exact k H locs hz hP hS
/-- what one call of the law needs of the two sides -/
def lw_S_symbol (Inv : Nat → ab_M → Prop) (j : Nat) : Prop := ∀ (σ : ab_M) (a1 a2 a3 : Int32), Inv j σ → ∃ (v1 v2 : Int32) (σ1 σ2 : ab_M), ev0 mX7_symbol [.inr (.inr 0), .inl (lw_char a1), .inl a2] σ (some (.inl v1)) σ1 ∧ ev0 mX8_symbol [.inr (.inr 50), .inl (lw_char a1), .inl a2] σ1 (some (.inl v2)) σ2 ∧ True ∧ Inv (j + 1) σ2
def lw_S_type (Inv : Nat → ab_M → Prop) (j : Nat) : Prop := ∀ (σ : ab_M) (a1 a2 a3 : Int32), Inv j σ → ∃ (v1 v2 : Int32) (σ1 σ2 : ab_M), ev0 mX7_type [.inr (.inr 0), .inr (.inl (lw_long a1 a2)), .inl a3] σ (some (.inl v1)) σ1 ∧ ev0 mX8_type [.inr (.inr 50), .inr (.inl (lw_long a1 a2)), .inl a3] σ1 (some (.inl v2)) σ2 ∧ True ∧ Inv (j + 1) σ2
def lw_S_clause (Inv : Nat → ab_M → Prop) (j : Nat) : Prop := ∀ (σ : ab_M) (a1 a2 a3 : Int32), Inv j σ → ∃ (v1 v2 : Int32) (σ1 σ2 : ab_M), ev0 mX7_clause [.inr (.inr 0)] σ (some (.inl v1)) σ1 ∧ ev0 mX8_clause [.inr (.inr 50)] σ1 (some (.inl v2)) σ2 ∧ True ∧ Inv (j + 1) σ2
def lw_S_drop (Inv : Nat → ab_M → Prop) (j : Nat) : Prop := ∀ (σ : ab_M) (a1 a2 a3 : Int32), Inv j σ → ∃ (v1 v2 : Int32) (σ1 σ2 : ab_M), ev0 mX7_drop [.inr (.inr 0)] σ (some (.inl v1)) σ1 ∧ ev0 mX8_drop [.inr (.inr 50)] σ1 (some (.inl v2)) σ2 ∧ True ∧ Inv (j + 1) σ2
def lw_S_find (Inv : Nat → ab_M → Prop) (j : Nat) : Prop := ∀ (σ : ab_M) (a1 a2 a3 : Int32), Inv j σ → ∃ (v1 v2 : Int32) (σ1 σ2 : ab_M), ev0 mX7_find [.inr (.inr 0), .inl a1] σ (some (.inl v1)) σ1 ∧ ev0 mX8_find [.inr (.inr 50), .inl a1] σ1 (some (.inl v2)) σ2 ∧ True ∧ Inv (j + 1) σ2
def lw_S_more (Inv : Nat → ab_M → Prop) (j : Nat) : Prop := ∀ (σ : ab_M) (a1 a2 a3 : Int32), Inv j σ → ∃ (v1 v2 : Int32) (σ1 σ2 : ab_M), ev0 mX7_more [.inr (.inr 0)] σ (some (.inl v1)) σ1 ∧ ev0 mX8_more [.inr (.inr 50)] σ1 (some (.inl v2)) σ2 ∧ True ∧ Inv (j + 1) σ2
def lw_S_size (Inv : Nat → ab_M → Prop) (j : Nat) : Prop := ∀ (σ : ab_M) (a1 a2 a3 : Int32), Inv j σ → ∃ (v1 v2 : Int32) (σ1 σ2 : ab_M), ev0 mX7_size [.inr (.inr 0)] σ (some (.inl v1)) σ1 ∧ ev0 mX8_size [.inr (.inr 50)] σ1 (some (.inl v2)) σ2 ∧ True ∧ Inv (j + 1) σ2
def lw_S_value (Inv : Nat → ab_M → Prop) (j : Nat) : Prop := ∀ (σ : ab_M) (a1 a2 a3 : Int32), Inv j σ → ∃ (v1 v2 : Int32) (σ1 σ2 : ab_M), ev0 mX7_value [.inr (.inr 0), .inl (lw_char a1), .inl a2, .inl a3] σ (some (.inl v1)) σ1 ∧ ev0 mX8_value [.inr (.inr 50), .inl (lw_char a1), .inl a2, .inl a3] σ1 (some (.inl v2)) σ2 ∧ True ∧ Inv (j + 1) σ2
def lw_S_tries (Inv : Nat → ab_M → Prop) (j : Nat) : Prop := ∀ (σ : ab_M) (a1 a2 a3 : Int32), Inv j σ → ∃ (v1 v2 : Int32) (σ1 σ2 : ab_M), ev0 mX7_tries [.inr (.inr 0)] σ (some (.inl v1)) σ1 ∧ ev0 mX8_tries [.inr (.inr 50)] σ1 (some (.inl v2)) σ2 ∧ True ∧ Inv (j + 1) σ2
def lw_S_check (Inv : Nat → ab_M → Prop) (j : Nat) : Prop := ∀ (σ : ab_M) (a1 a2 a3 : Int32), Inv j σ → ∃ (v1 v2 : Int32) (σ1 σ2 : ab_M), ev0 mX7_check [.inr (.inr 0)] σ (some (.inl v1)) σ1 ∧ ev0 mX8_check [.inr (.inr 50)] σ1 (some (.inl v2)) σ2 ∧ True ∧ Inv (j + 1) σ2
def lw_S_caseOf (Inv : Nat → ab_M → Prop) (j : Nat) : Prop := ∀ (σ : ab_M) (a1 a2 a3 : Int32), Inv j σ → ∃ (v1 v2 : Int32) (σ1 σ2 : ab_M), ev0 mX7_caseOf [.inr (.inr 0), .inl a1] σ (some (.inl v1)) σ1 ∧ ev0 mX8_caseOf [.inr (.inr 50), .inl a1] σ1 (some (.inl v2)) σ2 ∧ v1 = v2 ∧ Inv (j + 1) σ2
def lw_S_clauses (Inv : Nat → ab_M → Prop) (j : Nat) : Prop := ∀ (σ : ab_M) (a1 a2 a3 : Int32), Inv j σ → ∃ (v1 v2 : Int32) (σ1 σ2 : ab_M), ev0 mX7_clauses [.inr (.inr 0)] σ (some (.inl v1)) σ1 ∧ ev0 mX8_clauses [.inr (.inr 50)] σ1 (some (.inl v2)) σ2 ∧ True ∧ Inv (j + 1) σ2
def lw_Step (Inv : Nat → ab_M → Prop) (j : Nat) : Prop := (∀ σ, Inv j σ → Inv (j + 1) σ) ∧ lw_S_symbol Inv j ∧ lw_S_type Inv j ∧ lw_S_clause Inv j ∧ lw_S_drop Inv j ∧ lw_S_find Inv j ∧ lw_S_more Inv j ∧ lw_S_size Inv j ∧ lw_S_value Inv j ∧ lw_S_tries Inv j ∧ lw_S_check Inv j ∧ lw_S_caseOf Inv j ∧ lw_S_clauses Inv j
theorem lw_in {j k L : Nat} {i : Int32} (hi : i = nI (4 * j)) (hk : k < 4) (h : 4 * j + 4 ≤ L) (hL : L ≤ 2048) : vp_in (i + nI k) L := by
  rw [hi, nI_add]
  exact vp_in_nI (by omega) (by omega)
theorem lw_gt {j L : Nat} {i : Int32} (hi : i = nI (4 * j)) (hj : 4 * j ≤ 4096) (hL : L ≤ 2048) : (Int32.ofNat L - 4 < i) ↔ L < 4 * j + 4 := by
  have e1 : Int32.ofNat L - 4 = nI L - nI 4 := rfl
  rw [e1, hi, Int32.lt_iff_toInt_lt, pk_sub_toInt (by omega) (by omega), nI_toInt (by omega)]
  omega
set_option maxHeartbeats 4000000 in
set_option maxRecDepth 100000 in
/-- the law's loop -/
theorem lw_loop {p : Program} {l : Launch} {e : Env} {s : State} {m : MethodId} {below : List Frame} {meth : Method} {c : Code} {b L : Nat} {xs : Nat → Int32} {D : va_G} {ca : Nat → ClassId} (hr : meth.sig.returnType = ret) (hlocks : meth.locks = false) (hL : L ≤ 2048) (Inv : Nat → ab_M → Prop) (hst : ∀ j, 4 * j + 4 ≤ L → lw_Step Inv j) (F : ab_Fr p s m #[Value.ref b] meth c code 4 11 false D ca s.heap.size) (hX : va_X b L xs s s.heap) (hbl : b < s.heap.size) : ∀ (n j : Nat), L + 4 ≤ 4 * j + 4 * n → 4 * j ≤ L → ∀ {σ : ab_M} {i : Int32} {H : Heap} {locs : List Loc} {ls : Array Slot}, Inv j σ → i = nI (4 * j) → H.size = s.heap.size + sh0.length → va_P D vwCl (ab_w s.heap.size ca sh0 σ) H → va_S (fun q => s.heap.size ≤ q) s.heap H locs → lv_has ls 4 [(3, .int i), (2, .ref (s.heap.size + 50)), (1, .ref (s.heap.size + 0)), (0, .ref b)] → W p l e room_1 s m #[Value.ref b] below meth c H locs 62 3719 (lw_Z below #[Value.ref b] s) (F0 m 18 ls []) := by
  intro n
  induction n with
  | zero =>
    intro j h1 h2
    omega
  | succ n ih =>
    intro j h1 h2 σ i H locs ls hI hi hz hP hS hl
    have hx := F.1
    have hb := F.2.1
    have hbA : ¬ (fun q : Nat => s.heap.size ≤ q) b := Nat.not_le.mpr hbl
    refine lv_iload_n hx hb dL_law_18 rfl (lv_at hl 0 rfl) ?_
    refine lv_aload_n hx hb dL_law_19 rfl (lv_at hl 3 rfl) ?_
    refine va_slen hx hb hX hbl hbA hS dL_law_20 ?_
    refine lv_iconst (v := 4) hx hb dL_law_21 (by decide) ?_
    refine lv_isub hx hb dL_law_22 ?_
    refine lv_icmp_gt (tgt := 382) hx hb dL_law_23 (by decide) (fun hg => ?_) (fun hg => ?_)
    · refine lv_iconst (v := 1) hx hb dL_law_382 (by decide) ?_
      refine va_forget (fun q hq => hS.2.2 q hq) ?_
      refine W.widen (k := 600000) (n := 7302250) (Nat.le_of_ble_eq_true rfl) (Nat.le_of_ble_eq_true rfl) ?_
      exact lw_ret hx hb hr hlocks dL_law_383
    · have hlt : 4 * j + 4 ≤ L := by
        rcases Nat.lt_or_ge L (4 * j + 4) with q | q
        · exact absurd ((lw_gt hi (by omega) hL).mpr q) hg
        · exact q
      obtain ⟨hdf, hs0, hs1, hs2, hs3, hs4, hs5, hs6, hs7, hs8, hs9, hs10, hs11⟩ := hst j hlt
      have hin0 : vp_in i L := by
        rw [hi]
        exact vp_in_nI (by omega) (by omega)
      have hin1 : vp_in (i + 1) L := lw_in hi (k := 1) (by omega) hlt hL
      have hin2 : vp_in (i + 2) L := lw_in hi (k := 2) (by omega) hlt hL
      have hin3 : vp_in (i + 3) L := lw_in hi (k := 3) (by omega) hlt hL
      have go : ∀ (σ2 : ab_M), Inv (j + 1) σ2 → ∀ (H : Heap) (locs : List Loc), H.size = s.heap.size + sh0.length → va_P D vwCl (ab_w s.heap.size ca sh0 σ2) H → va_S (fun q => s.heap.size ≤ q) s.heap H locs → W p l e room_1 s m #[Value.ref b] below meth c H locs 62 3719 (lw_Z below #[Value.ref b] s) (F0 m 376 ls []) := by
        intro σ2 hI2 H locs hz hP hS
        refine lv_iinc (v := i + 4) (lv' := [(3, .int (i + 4)), (2, .ref (s.heap.size + 50)), (1, .ref (s.heap.size + 0)), (0, .ref b)]) hx hb dL_law_376 hl (k := 0) rfl rfl (by decide) rfl (fun ls hl => ?_)
        refine lv_goto (tgt := 18) hx hb dL_law_379 (by decide) ?_
        refine ih (j + 1) (by omega) (by omega) hI2 ?_ hz hP hS hl
        rw [hi]
        exact nI_add (4 * j) 4
      refine lv_aload_n hx hb dL_law_26 rfl (lv_at hl 3 rfl) ?_
      refine lv_iload_n hx hb dL_law_27 rfl (lv_at hl 0 rfl) ?_
      refine va_sld hx hb hX hbl hbA hS hin0 dL_law_28 ?_
      refine lv_bipush (v := 15) hx hb dL_law_29 (by decide) ?_
      refine lv_iand hx hb dL_law_31 ?_
      obtain ⟨q, hq, eq⟩ := pk_andE (xs i.toNatClampNeg) (m := 15) 4 (by decide)
      rw [eq]
      match q, hq with
      | 0, _ =>
        refine lv_tableIn (off := 64) (tgt := 96) hx hb dL_law_32 (by decide) (by decide) rfl (by decide) ?_
        obtain ⟨v1, v2, σ1, σ2, g1, g2, g3, g4⟩ := hs0 σ (xs (i + 1).toNatClampNeg) (xs (i + 2).toNatClampNeg) (xs (i + 3).toNatClampNeg) hI
        exact lw_c_symbol F hX hbl hin1 hin2 hin3 g1 g2 hz hP hS hl (go σ2 g4)
      | 1, _ =>
        refine lv_tableIn (off := 99) (tgt := 131) hx hb dL_law_32 (by decide) (by decide) rfl (by decide) ?_
        obtain ⟨v1, v2, σ1, σ2, g1, g2, g3, g4⟩ := hs1 σ (xs (i + 1).toNatClampNeg) (xs (i + 2).toNatClampNeg) (xs (i + 3).toNatClampNeg) hI
        exact lw_c_type F hX hbl hin1 hin2 hin3 g1 g2 hz hP hS hl (go σ2 g4)
      | 2, _ =>
        refine lv_tableIn (off := 162) (tgt := 194) hx hb dL_law_32 (by decide) (by decide) rfl (by decide) ?_
        obtain ⟨v1, v2, σ1, σ2, g1, g2, g3, g4⟩ := hs2 σ (xs (i + 1).toNatClampNeg) (xs (i + 2).toNatClampNeg) (xs (i + 3).toNatClampNeg) hI
        exact lw_c_clause F hX hbl hin1 hin2 hin3 g1 g2 hz hP hS hl (go σ2 g4)
      | 3, _ =>
        refine lv_tableIn (off := 175) (tgt := 207) hx hb dL_law_32 (by decide) (by decide) rfl (by decide) ?_
        obtain ⟨v1, v2, σ1, σ2, g1, g2, g3, g4⟩ := hs3 σ (xs (i + 1).toNatClampNeg) (xs (i + 2).toNatClampNeg) (xs (i + 3).toNatClampNeg) hI
        exact lw_c_drop F hX hbl hin1 hin2 hin3 g1 g2 hz hP hS hl (go σ2 g4)
      | 4, _ =>
        refine lv_tableIn (off := 188) (tgt := 220) hx hb dL_law_32 (by decide) (by decide) rfl (by decide) ?_
        obtain ⟨v1, v2, σ1, σ2, g1, g2, g3, g4⟩ := hs4 σ (xs (i + 1).toNatClampNeg) (xs (i + 2).toNatClampNeg) (xs (i + 3).toNatClampNeg) hI
        exact lw_c_find F hX hbl hin1 hin2 hin3 g1 g2 hz hP hS hl (go σ2 g4)
      | 5, _ =>
        refine lv_tableIn (off := 211) (tgt := 243) hx hb dL_law_32 (by decide) (by decide) rfl (by decide) ?_
        obtain ⟨v1, v2, σ1, σ2, g1, g2, g3, g4⟩ := hs5 σ (xs (i + 1).toNatClampNeg) (xs (i + 2).toNatClampNeg) (xs (i + 3).toNatClampNeg) hI
        exact lw_c_more F hX hbl hin1 hin2 hin3 g1 g2 hz hP hS hl (go σ2 g4)
      | 6, _ =>
        refine lv_tableIn (off := 224) (tgt := 256) hx hb dL_law_32 (by decide) (by decide) rfl (by decide) ?_
        obtain ⟨v1, v2, σ1, σ2, g1, g2, g3, g4⟩ := hs6 σ (xs (i + 1).toNatClampNeg) (xs (i + 2).toNatClampNeg) (xs (i + 3).toNatClampNeg) hI
        exact lw_c_size F hX hbl hin1 hin2 hin3 g1 g2 hz hP hS hl (go σ2 g4)
      | 7, _ =>
        refine lv_tableIn (off := 237) (tgt := 269) hx hb dL_law_32 (by decide) (by decide) rfl (by decide) ?_
        obtain ⟨v1, v2, σ1, σ2, g1, g2, g3, g4⟩ := hs7 σ (xs (i + 1).toNatClampNeg) (xs (i + 2).toNatClampNeg) (xs (i + 3).toNatClampNeg) hI
        exact lw_c_value F hX hbl hin1 hin2 hin3 g1 g2 hz hP hS hl (go σ2 g4)
      | 8, _ =>
        refine lv_tableIn (off := 282) (tgt := 314) hx hb dL_law_32 (by decide) (by decide) rfl (by decide) ?_
        obtain ⟨v1, v2, σ1, σ2, g1, g2, g3, g4⟩ := hs8 σ (xs (i + 1).toNatClampNeg) (xs (i + 2).toNatClampNeg) (xs (i + 3).toNatClampNeg) hI
        exact lw_c_tries F hX hbl hin1 hin2 hin3 g1 g2 hz hP hS hl (go σ2 g4)
      | 9, _ =>
        refine lv_tableIn (off := 295) (tgt := 327) hx hb dL_law_32 (by decide) (by decide) rfl (by decide) ?_
        obtain ⟨v1, v2, σ1, σ2, g1, g2, g3, g4⟩ := hs9 σ (xs (i + 1).toNatClampNeg) (xs (i + 2).toNatClampNeg) (xs (i + 3).toNatClampNeg) hI
        exact lw_c_check F hX hbl hin1 hin2 hin3 g1 g2 hz hP hS hl (go σ2 g4)
      | 10, _ =>
        refine lv_tableIn (off := 308) (tgt := 340) hx hb dL_law_32 (by decide) (by decide) rfl (by decide) ?_
        obtain ⟨v1, v2, σ1, σ2, g1, g2, g3, g4⟩ := hs10 σ (xs (i + 1).toNatClampNeg) (xs (i + 2).toNatClampNeg) (xs (i + 3).toNatClampNeg) hI
        exact lw_c_caseOf F hX hbl hin1 hin2 hin3 g1 g2 g3 hz hP hS hl (go σ2 g4)
      | 11, _ =>
        refine lv_tableIn (off := 331) (tgt := 363) hx hb dL_law_32 (by decide) (by decide) rfl (by decide) ?_
        obtain ⟨v1, v2, σ1, σ2, g1, g2, g3, g4⟩ := hs11 σ (xs (i + 1).toNatClampNeg) (xs (i + 2).toNatClampNeg) (xs (i + 3).toNatClampNeg) hI
        exact lw_c_clauses F hX hbl hin1 hin2 hin3 g1 g2 hz hP hS hl (go σ2 g4)
      | 12, _ =>
        refine lv_tableOut (tgt := 376) hx hb dL_law_32 (by decide) (by decide) ?_
        exact go σ (hdf σ hI) H locs hz hP hS
      | 13, _ =>
        refine lv_tableOut (tgt := 376) hx hb dL_law_32 (by decide) (by decide) ?_
        exact go σ (hdf σ hI) H locs hz hP hS
      | 14, _ =>
        refine lv_tableOut (tgt := 376) hx hb dL_law_32 (by decide) (by decide) ?_
        exact go σ (hdf σ hI) H locs hz hP hS
      | 15, _ =>
        refine lv_tableOut (tgt := 376) hx hb dL_law_32 (by decide) (by decide) ?_
        exact go σ (hdf σ hI) H locs hz hP hS
      | q + 16, hq => omega
/-- the law, out of what its calls need -/
theorem lw_whole {p : Program} {e : Env} {s : State} {m : MethodId} {below : List Frame} {meth : Method} {c : Code} (l : Launch) {b L : Nat} {xs : Nat → Int32} (hL : L ≤ 2048) (Inv : Nat → ab_M → Prop) (hst : ∀ j, 4 * j + 4 ≤ L → lw_Step Inv j) (h0 : Inv 0 si_m) (C0 : lw_At p s m meth c b L xs) : W p l e room_1 s m #[Value.ref b] below meth c s.heap [] 0 0 (lw_Z below #[Value.ref b] s) (entryFrame m ([Value.ref b] : List Value).toArray 4) := by
  refine lw_begin C0 (fun D ca F H locs lsA hz hP hS hl => ?_)
  obtain ⟨hx, hb, hr, hml, hown, hts0, hX, hbl, hlocks, hgv⟩ := C0
  exact lw_loop hr hlocks hL Inv hst F hX hbl (L + 1) 0 (by omega) (by omega) h0 rfl hz hP hS hl

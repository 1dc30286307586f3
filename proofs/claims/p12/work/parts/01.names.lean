-- ===== PART A: goes FIRST, ahead of the names: the tables' words, and 'selects' of the private methods out of them =====
/-- a private method of a class that the tables say can be made, by its rows of tables_1 -/
def lw_okq (q : MethodName × Nat) : Prop := (q.1.cls ≠ "java/lang/invoke/MethodHandle" ∧ q.1.cls ≠ "java/lang/invoke/VarHandle") ∧ Cond.instantiable q.1.cls q.2 ∈ tables_1 ∧ Cond.privateMethod q.1 ∈ tables_1 ∧ Cond.instanceMethod q.1 ∈ tables_1
theorem lw_p0 : lw_okq (⟨"StructureFinder$Look", "forgetLatest", "()V"⟩, 8) := ⟨⟨by decide +kernel, by decide +kernel⟩, List.mem_of_getElem? (i := 107) (by decide +kernel), List.mem_of_getElem? (i := 113) (by decide +kernel), List.mem_of_getElem? (i := 114) (by decide +kernel)⟩
theorem lw_p1 : lw_okq (⟨"StructureFinder$Clause", "forgetText", "()V"⟩, 3) := ⟨⟨by decide +kernel, by decide +kernel⟩, List.mem_of_getElem? (i := 56) (by decide +kernel), List.mem_of_getElem? (i := 255) (by decide +kernel), List.mem_of_getElem? (i := 256) (by decide +kernel)⟩
theorem lw_p2 : lw_okq (⟨"StructureFinder$Clause", "keep", "(I)V"⟩, 3) := ⟨⟨by decide +kernel, by decide +kernel⟩, List.mem_of_getElem? (i := 56) (by decide +kernel), List.mem_of_getElem? (i := 287) (by decide +kernel), List.mem_of_getElem? (i := 288) (by decide +kernel)⟩
theorem lw_p3 : lw_okq (⟨"StructureFinder$Tables", "layCells", "(III)V"⟩, 6) := ⟨⟨by decide +kernel, by decide +kernel⟩, List.mem_of_getElem? (i := 82) (by decide +kernel), List.mem_of_getElem? (i := 334) (by decide +kernel), List.mem_of_getElem? (i := 335) (by decide +kernel)⟩
theorem lw_p4 : lw_okq (⟨"StructureFinder$Tables", "layCell", "(II)V"⟩, 6) := ⟨⟨by decide +kernel, by decide +kernel⟩, List.mem_of_getElem? (i := 82) (by decide +kernel), List.mem_of_getElem? (i := 341) (by decide +kernel), List.mem_of_getElem? (i := 342) (by decide +kernel)⟩
theorem lw_p5 : lw_okq (⟨"StructureFinder$Tables", "layPairs", "(II)V"⟩, 6) := ⟨⟨by decide +kernel, by decide +kernel⟩, List.mem_of_getElem? (i := 82) (by decide +kernel), List.mem_of_getElem? (i := 345) (by decide +kernel), List.mem_of_getElem? (i := 346) (by decide +kernel)⟩
theorem lw_p6 : lw_okq (⟨"StructureFinder$Search", "isSomeBroken", "(I)Z"⟩, 7) := ⟨⟨by decide +kernel, by decide +kernel⟩, List.mem_of_getElem? (i := 142) (by decide +kernel), List.mem_of_getElem? (i := 349) (by decide +kernel), List.mem_of_getElem? (i := 350) (by decide +kernel)⟩
theorem lw_p7 : lw_okq (⟨"StructureFinder$Search", "needsLook", "(II)Z"⟩, 7) := ⟨⟨by decide +kernel, by decide +kernel⟩, List.mem_of_getElem? (i := 142) (by decide +kernel), List.mem_of_getElem? (i := 366) (by decide +kernel), List.mem_of_getElem? (i := 367) (by decide +kernel)⟩
theorem lw_p8 : lw_okq (⟨"StructureFinder$Look", "push", "(I)V"⟩, 8) := ⟨⟨by decide +kernel, by decide +kernel⟩, List.mem_of_getElem? (i := 107) (by decide +kernel), List.mem_of_getElem? (i := 383) (by decide +kernel), List.mem_of_getElem? (i := 384) (by decide +kernel)⟩
theorem lw_p9 : lw_okq (⟨"StructureFinder$Look", "pop", "()I"⟩, 8) := ⟨⟨by decide +kernel, by decide +kernel⟩, List.mem_of_getElem? (i := 107) (by decide +kernel), List.mem_of_getElem? (i := 387) (by decide +kernel), List.mem_of_getElem? (i := 388) (by decide +kernel)⟩
theorem lw_p10 : lw_okq (⟨"StructureFinder$Look", "readCell", "(I)Z"⟩, 8) := ⟨⟨by decide +kernel, by decide +kernel⟩, List.mem_of_getElem? (i := 107) (by decide +kernel), List.mem_of_getElem? (i := 391) (by decide +kernel), List.mem_of_getElem? (i := 392) (by decide +kernel)⟩
theorem lw_p11 : lw_okq (⟨"StructureFinder$Search", "fill", "(I)I"⟩, 7) := ⟨⟨by decide +kernel, by decide +kernel⟩, List.mem_of_getElem? (i := 142) (by decide +kernel), List.mem_of_getElem? (i := 417) (by decide +kernel), List.mem_of_getElem? (i := 418) (by decide +kernel)⟩
theorem lw_p12 : lw_okq (⟨"StructureFinder$Tables", "isRank", "(I)Z"⟩, 6) := ⟨⟨by decide +kernel, by decide +kernel⟩, List.mem_of_getElem? (i := 82) (by decide +kernel), List.mem_of_getElem? (i := 430) (by decide +kernel), List.mem_of_getElem? (i := 431) (by decide +kernel)⟩
theorem lw_p13 : lw_okq (⟨"StructureFinder$Search", "limitAt", "(I)I"⟩, 7) := ⟨⟨by decide +kernel, by decide +kernel⟩, List.mem_of_getElem? (i := 142) (by decide +kernel), List.mem_of_getElem? (i := 434) (by decide +kernel), List.mem_of_getElem? (i := 435) (by decide +kernel)⟩
theorem lw_p14 : lw_okq (⟨"StructureFinder$Search", "put", "(II)V"⟩, 7) := ⟨⟨by decide +kernel, by decide +kernel⟩, List.mem_of_getElem? (i := 142) (by decide +kernel), List.mem_of_getElem? (i := 455) (by decide +kernel), List.mem_of_getElem? (i := 456) (by decide +kernel)⟩
theorem lw_p15 : lw_okq (⟨"StructureFinder", "isArgument", "(I)Z"⟩, 10) := ⟨⟨by decide +kernel, by decide +kernel⟩, List.mem_of_getElem? (i := 13) (by decide +kernel), List.mem_of_getElem? (i := 476) (by decide +kernel), List.mem_of_getElem? (i := 477) (by decide +kernel)⟩
def lw_privs_1 : List (MethodName × Nat) := [(⟨"StructureFinder$Look", "forgetLatest", "()V"⟩, 8), (⟨"StructureFinder$Clause", "forgetText", "()V"⟩, 3), (⟨"StructureFinder$Clause", "keep", "(I)V"⟩, 3), (⟨"StructureFinder$Tables", "layCells", "(III)V"⟩, 6), (⟨"StructureFinder$Tables", "layCell", "(II)V"⟩, 6), (⟨"StructureFinder$Tables", "layPairs", "(II)V"⟩, 6), (⟨"StructureFinder$Search", "isSomeBroken", "(I)Z"⟩, 7), (⟨"StructureFinder$Search", "needsLook", "(II)Z"⟩, 7), (⟨"StructureFinder$Look", "push", "(I)V"⟩, 8), (⟨"StructureFinder$Look", "pop", "()I"⟩, 8), (⟨"StructureFinder$Look", "readCell", "(I)Z"⟩, 8), (⟨"StructureFinder$Search", "fill", "(I)I"⟩, 7), (⟨"StructureFinder$Tables", "isRank", "(I)Z"⟩, 6), (⟨"StructureFinder$Search", "limitAt", "(I)I"⟩, 7), (⟨"StructureFinder$Search", "put", "(II)V"⟩, 7), (⟨"StructureFinder", "isArgument", "(I)Z"⟩, 10)]
theorem lw_r1 : ∀ q ∈ lw_privs_1, lw_okq q := List.forall_mem_cons.mpr ⟨lw_p0, List.forall_mem_cons.mpr ⟨lw_p1, List.forall_mem_cons.mpr ⟨lw_p2, List.forall_mem_cons.mpr ⟨lw_p3, List.forall_mem_cons.mpr ⟨lw_p4, List.forall_mem_cons.mpr ⟨lw_p5, List.forall_mem_cons.mpr ⟨lw_p6, List.forall_mem_cons.mpr ⟨lw_p7, List.forall_mem_cons.mpr ⟨lw_p8, List.forall_mem_cons.mpr ⟨lw_p9, List.forall_mem_cons.mpr ⟨lw_p10, List.forall_mem_cons.mpr ⟨lw_p11, List.forall_mem_cons.mpr ⟨lw_p12, List.forall_mem_cons.mpr ⟨lw_p13, List.forall_mem_cons.mpr ⟨lw_p14, List.forall_mem_cons.mpr ⟨lw_p15, fun _ h => absurd h List.not_mem_nil⟩⟩⟩⟩⟩⟩⟩⟩⟩⟩⟩⟩⟩⟩⟩⟩
theorem lw_p16 : lw_okq (⟨"StructureFinder", "holdsInStructure", "()Z"⟩, 10) := ⟨⟨by decide +kernel, by decide +kernel⟩, List.mem_of_getElem? (i := 13) (by decide +kernel), List.mem_of_getElem? (i := 494) (by decide +kernel), List.mem_of_getElem? (i := 495) (by decide +kernel)⟩
theorem lw_p17 : lw_okq (⟨"StructureFinderModel", "wrong", "()I"⟩, 19) := ⟨⟨by decide +kernel, by decide +kernel⟩, List.mem_of_getElem? (i := 508) (by decide +kernel), List.mem_of_getElem? (i := 590) (by decide +kernel), List.mem_of_getElem? (i := 591) (by decide +kernel)⟩
theorem lw_p18 : lw_okq (⟨"StructureFinderModel", "atomWants", "(I)I"⟩, 19) := ⟨⟨by decide +kernel, by decide +kernel⟩, List.mem_of_getElem? (i := 508) (by decide +kernel), List.mem_of_getElem? (i := 594) (by decide +kernel), List.mem_of_getElem? (i := 595) (by decide +kernel)⟩
theorem lw_p19 : lw_okq (⟨"StructureFinderModel", "termWants", "(I)I"⟩, 19) := ⟨⟨by decide +kernel, by decide +kernel⟩, List.mem_of_getElem? (i := 508) (by decide +kernel), List.mem_of_getElem? (i := 598) (by decide +kernel), List.mem_of_getElem? (i := 599) (by decide +kernel)⟩
theorem lw_p20 : lw_okq (⟨"StructureFinderModel", "keep", "(I)V"⟩, 19) := ⟨⟨by decide +kernel, by decide +kernel⟩, List.mem_of_getElem? (i := 508) (by decide +kernel), List.mem_of_getElem? (i := 602) (by decide +kernel), List.mem_of_getElem? (i := 603) (by decide +kernel)⟩
theorem lw_p21 : lw_okq (⟨"StructureFinderModel", "list", "(I)V"⟩, 19) := ⟨⟨by decide +kernel, by decide +kernel⟩, List.mem_of_getElem? (i := 508) (by decide +kernel), List.mem_of_getElem? (i := 614) (by decide +kernel), List.mem_of_getElem? (i := 615) (by decide +kernel)⟩
theorem lw_p22 : lw_okq (⟨"StructureFinderModel", "put", "(III)V"⟩, 19) := ⟨⟨by decide +kernel, by decide +kernel⟩, List.mem_of_getElem? (i := 508) (by decide +kernel), List.mem_of_getElem? (i := 618) (by decide +kernel), List.mem_of_getElem? (i := 619) (by decide +kernel)⟩
theorem lw_p23 : lw_okq (⟨"StructureFinderModel", "someBreaks", "(I)Z"⟩, 19) := ⟨⟨by decide +kernel, by decide +kernel⟩, List.mem_of_getElem? (i := 508) (by decide +kernel), List.mem_of_getElem? (i := 622) (by decide +kernel), List.mem_of_getElem? (i := 623) (by decide +kernel)⟩
theorem lw_p24 : lw_okq (⟨"StructureFinderModel", "has", "(II)Z"⟩, 19) := ⟨⟨by decide +kernel, by decide +kernel⟩, List.mem_of_getElem? (i := 508) (by decide +kernel), List.mem_of_getElem? (i := 629) (by decide +kernel), List.mem_of_getElem? (i := 630) (by decide +kernel)⟩
theorem lw_p25 : lw_okq (⟨"StructureFinderModel", "breaks", "(I)Z"⟩, 19) := ⟨⟨by decide +kernel, by decide +kernel⟩, List.mem_of_getElem? (i := 508) (by decide +kernel), List.mem_of_getElem? (i := 633) (by decide +kernel), List.mem_of_getElem? (i := 634) (by decide +kernel)⟩
theorem lw_p26 : lw_okq (⟨"StructureFinderModel", "isBroken", "(I)Z"⟩, 19) := ⟨⟨by decide +kernel, by decide +kernel⟩, List.mem_of_getElem? (i := 508) (by decide +kernel), List.mem_of_getElem? (i := 637) (by decide +kernel), List.mem_of_getElem? (i := 638) (by decide +kernel)⟩
theorem lw_p27 : lw_okq (⟨"StructureFinderModel", "step", "(I)V"⟩, 19) := ⟨⟨by decide +kernel, by decide +kernel⟩, List.mem_of_getElem? (i := 508) (by decide +kernel), List.mem_of_getElem? (i := 641) (by decide +kernel), List.mem_of_getElem? (i := 642) (by decide +kernel)⟩
theorem lw_p28 : lw_okq (⟨"StructureFinderModel", "cell", "(I)I"⟩, 19) := ⟨⟨by decide +kernel, by decide +kernel⟩, List.mem_of_getElem? (i := 508) (by decide +kernel), List.mem_of_getElem? (i := 645) (by decide +kernel), List.mem_of_getElem? (i := 646) (by decide +kernel)⟩
theorem lw_p29 : lw_okq (⟨"StructureFinderModel", "walk", "(I)I"⟩, 19) := ⟨⟨by decide +kernel, by decide +kernel⟩, List.mem_of_getElem? (i := 508) (by decide +kernel), List.mem_of_getElem? (i := 649) (by decide +kernel), List.mem_of_getElem? (i := 650) (by decide +kernel)⟩
theorem lw_p30 : lw_okq (⟨"StructureFinderModel", "placeOf", "(I)I"⟩, 19) := ⟨⟨by decide +kernel, by decide +kernel⟩, List.mem_of_getElem? (i := 508) (by decide +kernel), List.mem_of_getElem? (i := 653) (by decide +kernel), List.mem_of_getElem? (i := 654) (by decide +kernel)⟩
theorem lw_p31 : lw_okq (⟨"StructureFinderModel", "limit", "(I)I"⟩, 19) := ⟨⟨by decide +kernel, by decide +kernel⟩, List.mem_of_getElem? (i := 508) (by decide +kernel), List.mem_of_getElem? (i := 657) (by decide +kernel), List.mem_of_getElem? (i := 658) (by decide +kernel)⟩
def lw_privs_2 : List (MethodName × Nat) := [(⟨"StructureFinder", "holdsInStructure", "()Z"⟩, 10), (⟨"StructureFinderModel", "wrong", "()I"⟩, 19), (⟨"StructureFinderModel", "atomWants", "(I)I"⟩, 19), (⟨"StructureFinderModel", "termWants", "(I)I"⟩, 19), (⟨"StructureFinderModel", "keep", "(I)V"⟩, 19), (⟨"StructureFinderModel", "list", "(I)V"⟩, 19), (⟨"StructureFinderModel", "put", "(III)V"⟩, 19), (⟨"StructureFinderModel", "someBreaks", "(I)Z"⟩, 19), (⟨"StructureFinderModel", "has", "(II)Z"⟩, 19), (⟨"StructureFinderModel", "breaks", "(I)Z"⟩, 19), (⟨"StructureFinderModel", "isBroken", "(I)Z"⟩, 19), (⟨"StructureFinderModel", "step", "(I)V"⟩, 19), (⟨"StructureFinderModel", "cell", "(I)I"⟩, 19), (⟨"StructureFinderModel", "walk", "(I)I"⟩, 19), (⟨"StructureFinderModel", "placeOf", "(I)I"⟩, 19), (⟨"StructureFinderModel", "limit", "(I)I"⟩, 19)]
theorem lw_r2 : ∀ q ∈ lw_privs_2, lw_okq q := List.forall_mem_cons.mpr ⟨lw_p16, List.forall_mem_cons.mpr ⟨lw_p17, List.forall_mem_cons.mpr ⟨lw_p18, List.forall_mem_cons.mpr ⟨lw_p19, List.forall_mem_cons.mpr ⟨lw_p20, List.forall_mem_cons.mpr ⟨lw_p21, List.forall_mem_cons.mpr ⟨lw_p22, List.forall_mem_cons.mpr ⟨lw_p23, List.forall_mem_cons.mpr ⟨lw_p24, List.forall_mem_cons.mpr ⟨lw_p25, List.forall_mem_cons.mpr ⟨lw_p26, List.forall_mem_cons.mpr ⟨lw_p27, List.forall_mem_cons.mpr ⟨lw_p28, List.forall_mem_cons.mpr ⟨lw_p29, List.forall_mem_cons.mpr ⟨lw_p30, List.forall_mem_cons.mpr ⟨lw_p31, fun _ h => absurd h List.not_mem_nil⟩⟩⟩⟩⟩⟩⟩⟩⟩⟩⟩⟩⟩⟩⟩⟩
def lw_privs : List (MethodName × Nat) := lw_privs_1 ++ (lw_privs_2)
def lw_tbl : List Cond := k2_sels lw_privs ++ tables_1
theorem lw_privs_ok : ∀ q ∈ lw_privs, lw_okq q := by
  show ∀ q ∈ lw_privs_1 ++ (lw_privs_2), lw_okq q
  exact List.forall_mem_append.mpr ⟨lw_r1, lw_r2⟩
/-! ===== BEGIN words of one list among another's, by their places ===== -/
theorem goodIn_r {big : List Cond} (ws : List Cond) (ps : List Nat) (hp : ws = ps.filterMap (fun i => big[i]?)) (h : ws.all goodWord = true) : GoodIn big ws := by
  intro w hw
  have h1 := List.all_eq_true.mp h w hw
  rw [hp] at hw
  obtain ⟨i, -, hi⟩ := List.mem_filterMap.mp hw
  have hm : w ∈ big := by first | exact List.mem_of_getElem? hi | exact List.getElem?_mem hi
  exact ⟨hm, good_of_word h1⟩
theorem goodIn_app {big a b : List Cond} (ha : GoodIn big a) (hb : GoodIn big b) : GoodIn big (a ++ b) := fun w h => (List.mem_append.mp h).elim (ha w) (hb w)
theorem goodIn_ca {big a b : List Cond} {c : Cond} (ha : GoodIn big (c :: a)) (hb : GoodIn big b) : GoodIn big (c :: (a ++ b)) := fun w h => (List.mem_cons.mp h).elim (fun e => ha w (List.mem_cons.mpr (Or.inl e))) (fun h => (List.mem_append.mp h).elim (fun h => ha w (List.mem_cons.mpr (Or.inr h))) (hb w))
theorem goodIn_sub {big ws : List Cond} (hm : ∀ w ∈ ws, w ∈ big) (h : ws.all goodWord = true) : GoodIn big ws := fun w hw => ⟨hm w hw, good_of_word (List.all_eq_true.mp h w hw)⟩
/-! ===== END ===== -/

/-! ===== BEGIN printed: names, fields, word lists, decode rows ===== -/
def RX0 : String := "StructureFinder$Buffer"
def TX0 : u_T := fun k => match k with
  | 0 => ("StructureFinder$Buffer", "characters", "[C", true)
  | _ => ("StructureFinder$Buffer", "used", "I", false)
def tyX0 : Nat → FieldType := fun k => match k with
  | 0 => .array .char
  | _ => .int
abbrev wsX00 : List Cond := u_ws RX0 TX0 2
theorem nmX0 : ∀ a, a < 2 → ∀ b, b < 2 → a ≠ b → (TX0 a).2.1 ≠ (TX0 b).2.1 := by decide +kernel
theorem tyX0_ok : ∀ k, k < 2 → parseFieldDescriptor (TX0 k).2.2.1 = some (tyX0 k) := by decide +kernel
abbrev cX0_init : ByteArray := prog_2_method_1_code
def yX0_init : MethodName := ⟨RX0, "<init>", "()V"⟩
abbrev cX0_hasRoomFor : ByteArray := prog_2_method_2_code
def yX0_hasRoomFor : MethodName := ⟨RX0, "hasRoomFor", "(I)Z"⟩
abbrev cX0_append : ByteArray := prog_2_method_3_code
def yX0_append : MethodName := ⟨RX0, "append", "(C)V"⟩
abbrev cX0_length : ByteArray := prog_2_method_4_code
def yX0_length : MethodName := ⟨RX0, "length", "()I"⟩
abbrev cX0_at : ByteArray := prog_2_method_5_code
def yX0_at : MethodName := ⟨RX0, "at", "(I)C"⟩
abbrev cX0_empty : ByteArray := prog_2_method_6_code
def yX0_empty : MethodName := ⟨RX0, "empty", "()V"⟩
def RX1 : String := "StructureFinder$Clause"
def TX1 : u_T := fun k => match k with
  | 0 => ("StructureFinder$Clause", "codes", "[I", true)
  | 1 => ("StructureFinder$Clause", "has", "[Z", true)
  | _ => ("StructureFinder$Clause", "length", "I", false)
def tyX1 : Nat → FieldType := fun k => match k with
  | 0 => .array .int
  | 1 => .array .boolean
  | _ => .int
abbrev wsX10 : List Cond := u_ws RX1 TX1 3
theorem nmX1 : ∀ a, a < 3 → ∀ b, b < 3 → a ≠ b → (TX1 a).2.1 ≠ (TX1 b).2.1 := by decide +kernel
theorem tyX1_ok : ∀ k, k < 3 → parseFieldDescriptor (TX1 k).2.2.1 = some (tyX1 k) := by decide +kernel
abbrev cX1_init : ByteArray := prog_3_method_1_code
def yX1_init : MethodName := ⟨RX1, "<init>", "()V"⟩
abbrev cX1_read : ByteArray := prog_3_method_2_code
def yX1_read : MethodName := ⟨RX1, "read", "(LStructureFinder$Buffer;LStructureFinder$Symbols;)I"⟩
abbrev cX1_length : ByteArray := prog_3_method_3_code
def yX1_length : MethodName := ⟨RX1, "length", "()I"⟩
abbrev cX1_codeAt : ByteArray := prog_3_method_4_code
def yX1_codeAt : MethodName := ⟨RX1, "codeAt", "(I)I"⟩
abbrev cX1_choices : ByteArray := prog_3_method_5_code
def yX1_choices : MethodName := ⟨RX1, "choices", "(II)I"⟩
abbrev cX1_forgetText : ByteArray := prog_3_method_6_code
def yX1_forgetText : MethodName := ⟨RX1, "forgetText", "()V"⟩
abbrev cX1_keep : ByteArray := prog_3_method_7_code
def yX1_keep : MethodName := ⟨RX1, "keep", "(I)V"⟩
abbrev cX1_after : ByteArray := prog_3_method_8_code
def yX1_after : MethodName := ⟨RX1, "after", "(IILStructureFinder$Symbols;)I"⟩
abbrev cX1_afterAtomBegins : ByteArray := prog_3_method_9_code
def yX1_afterAtomBegins : MethodName := ⟨RX1, "afterAtomBegins", "(ILStructureFinder$Symbols;)I"⟩
abbrev cX1_afterTermBegins : ByteArray := prog_3_method_10_code
def yX1_afterTermBegins : MethodName := ⟨RX1, "afterTermBegins", "(IILStructureFinder$Symbols;)I"⟩
def RX2 : String := "StructureFinder$Clauses"
def TX2 : u_T := fun k => match k with
  | 0 => ("StructureFinder$Clauses", "rows", "[LStructureFinder$Clause;", true)
  | _ => ("StructureFinder$Clauses", "used", "I", false)
def tyX2 : Nat → FieldType := fun k => match k with
  | 0 => .array (.object "StructureFinder$Clause")
  | _ => .int
abbrev wsX20 : List Cond := u_ws RX2 TX2 2
theorem nmX2 : ∀ a, a < 2 → ∀ b, b < 2 → a ≠ b → (TX2 a).2.1 ≠ (TX2 b).2.1 := by decide +kernel
theorem tyX2_ok : ∀ k, k < 2 → parseFieldDescriptor (TX2 k).2.2.1 = some (tyX2 k) := by decide +kernel
abbrev cX2_init : ByteArray := prog_4_method_1_code
def yX2_init : MethodName := ⟨RX2, "<init>", "()V"⟩
abbrev cX2_isFull : ByteArray := prog_4_method_2_code
def yX2_isFull : MethodName := ⟨RX2, "isFull", "()Z"⟩
abbrev cX2_count : ByteArray := prog_4_method_3_code
def yX2_count : MethodName := ⟨RX2, "count", "()I"⟩
abbrev cX2_at : ByteArray := prog_4_method_4_code
def yX2_at : MethodName := ⟨RX2, "at", "(I)LStructureFinder$Clause;"⟩
abbrev cX2_free : ByteArray := prog_4_method_5_code
def yX2_free : MethodName := ⟨RX2, "free", "()LStructureFinder$Clause;"⟩
abbrev cX2_keepFree : ByteArray := prog_4_method_6_code
def yX2_keepFree : MethodName := ⟨RX2, "keepFree", "()I"⟩
abbrev cX2_forgetLast : ByteArray := prog_4_method_7_code
def yX2_forgetLast : MethodName := ⟨RX2, "forgetLast", "()I"⟩
abbrev cX2_forgetAll : ByteArray := prog_4_method_8_code
def yX2_forgetAll : MethodName := ⟨RX2, "forgetAll", "()V"⟩
def RX3 : String := "StructureFinder$Look"
def TX3 : u_T := fun k => match k with
  | 0 => ("StructureFinder$Look", "symbols", "LStructureFinder$Symbols;", true)
  | 1 => ("StructureFinder$Look", "tables", "LStructureFinder$Tables;", true)
  | 2 => ("StructureFinder$Look", "numbers", "[I", true)
  | 3 => ("StructureFinder$Look", "stack", "[I", true)
  | 4 => ("StructureFinder$Look", "top", "I", false)
  | 5 => ("StructureFinder$Look", "truth", "Z", false)
  | 6 => ("StructureFinder$Look", "greatestRead", "I", false)
  | _ => ("StructureFinder$Look", "missing", "I", false)
def tyX3 : Nat → FieldType := fun k => match k with
  | 0 => .object "StructureFinder$Symbols"
  | 1 => .object "StructureFinder$Tables"
  | 2 => .array .int
  | 3 => .array .int
  | 4 => .int
  | 5 => .boolean
  | 6 => .int
  | _ => .int
abbrev wsX30 : List Cond := u_ws RX3 TX3 8
theorem nmX3 : ∀ a, a < 8 → ∀ b, b < 8 → a ≠ b → (TX3 a).2.1 ≠ (TX3 b).2.1 := by decide +kernel
theorem tyX3_ok : ∀ k, k < 8 → parseFieldDescriptor (TX3 k).2.2.1 = some (tyX3 k) := by decide +kernel
abbrev cX3_init : ByteArray := prog_5_method_1_code
def yX3_init : MethodName := ⟨RX3, "<init>", "(LStructureFinder$Symbols;LStructureFinder$Tables;)V"⟩
abbrev cX3_greatestRead : ByteArray := prog_5_method_2_code
def yX3_greatestRead : MethodName := ⟨RX3, "greatestRead", "()I"⟩
abbrev cX3_missing : ByteArray := prog_5_method_3_code
def yX3_missing : MethodName := ⟨RX3, "missing", "()I"⟩
abbrev cX3_isBroken : ByteArray := prog_5_method_4_code
def yX3_isBroken : MethodName := ⟨RX3, "isBroken", "(LStructureFinder$Clause;III)Z"⟩
abbrev cX3_forgetLatest : ByteArray := prog_5_method_5_code
def yX3_forgetLatest : MethodName := ⟨RX3, "forgetLatest", "()V"⟩
abbrev cX3_readCell : ByteArray := prog_5_method_6_code
def yX3_readCell : MethodName := ⟨RX3, "readCell", "(I)Z"⟩
abbrev cX3_push : ByteArray := prog_5_method_7_code
def yX3_push : MethodName := ⟨RX3, "push", "(I)V"⟩
abbrev cX3_pop : ByteArray := prog_5_method_8_code
def yX3_pop : MethodName := ⟨RX3, "pop", "()I"⟩
def RX4 : String := "StructureFinder$Search"
def TX4 : u_T := fun k => match k with
  | 0 => ("StructureFinder$Search", "clauses", "LStructureFinder$Clauses;", true)
  | 1 => ("StructureFinder$Search", "tables", "LStructureFinder$Tables;", true)
  | 2 => ("StructureFinder$Search", "look", "LStructureFinder$Look;", true)
  | 3 => ("StructureFinder$Search", "greatestRead", "[I", true)
  | 4 => ("StructureFinder$Search", "missing", "[I", true)
  | 5 => ("StructureFinder$Search", "greatestBefore", "[I", true)
  | _ => ("StructureFinder$Search", "made", "I", false)
def tyX4 : Nat → FieldType := fun k => match k with
  | 0 => .object "StructureFinder$Clauses"
  | 1 => .object "StructureFinder$Tables"
  | 2 => .object "StructureFinder$Look"
  | 3 => .array .int
  | 4 => .array .int
  | 5 => .array .int
  | _ => .int
abbrev wsX40 : List Cond := u_ws RX4 TX4 7
theorem nmX4 : ∀ a, a < 7 → ∀ b, b < 7 → a ≠ b → (TX4 a).2.1 ≠ (TX4 b).2.1 := by decide +kernel
theorem tyX4_ok : ∀ k, k < 7 → parseFieldDescriptor (TX4 k).2.2.1 = some (tyX4 k) := by decide +kernel
abbrev cX4_init : ByteArray := prog_6_method_1_code
def yX4_init : MethodName := ⟨RX4, "<init>", "(LStructureFinder$Clauses;LStructureFinder$Tables;LStructureFinder$Look;)V"⟩
abbrev cX4_countAnew : ByteArray := prog_6_method_2_code
def yX4_countAnew : MethodName := ⟨RX4, "countAnew", "()V"⟩
abbrev cX4_made : ByteArray := prog_6_method_3_code
def yX4_made : MethodName := ⟨RX4, "made", "()I"⟩
abbrev cX4_begin : ByteArray := prog_6_method_4_code
def yX4_begin : MethodName := ⟨RX4, "begin", "(ILStructureFinder$Symbols;)I"⟩
abbrev cX4_goOn : ByteArray := prog_6_method_5_code
def yX4_goOn : MethodName := ⟨RX4, "goOn", "()I"⟩
abbrev cX4_fill : ByteArray := prog_6_method_6_code
def yX4_fill : MethodName := ⟨RX4, "fill", "(I)I"⟩
abbrev cX4_limitAt : ByteArray := prog_6_method_7_code
def yX4_limitAt : MethodName := ⟨RX4, "limitAt", "(I)I"⟩
abbrev cX4_put : ByteArray := prog_6_method_8_code
def yX4_put : MethodName := ⟨RX4, "put", "(II)V"⟩
abbrev cX4_isSomeBroken : ByteArray := prog_6_method_9_code
def yX4_isSomeBroken : MethodName := ⟨RX4, "isSomeBroken", "(I)Z"⟩
abbrev cX4_instanceOf : ByteArray := prog_6_method_10_code
def yX4_instanceOf : MethodName := ⟨RX4, "instanceOf", "(IIII)I"⟩
abbrev cX4_needsLook : ByteArray := prog_6_method_11_code
def yX4_needsLook : MethodName := ⟨RX4, "needsLook", "(II)Z"⟩
def RX5 : String := "StructureFinder$Symbols"
def TX5 : u_T := fun k => match k with
  | _ => ("StructureFinder$Symbols", "arities", "[I", true)
def tyX5 : Nat → FieldType := fun k => match k with
  | _ => .array .int
abbrev wsX50 : List Cond := u_ws RX5 TX5 1
theorem nmX5 : ∀ a, a < 1 → ∀ b, b < 1 → a ≠ b → (TX5 a).2.1 ≠ (TX5 b).2.1 := by decide +kernel
theorem tyX5_ok : ∀ k, k < 1 → parseFieldDescriptor (TX5 k).2.2.1 = some (tyX5 k) := by decide +kernel
abbrev cX5_init : ByteArray := prog_7_method_1_code
def yX5_init : MethodName := ⟨RX5, "<init>", "()V"⟩
abbrev cX5_define : ByteArray := prog_7_method_2_code
def yX5_define : MethodName := ⟨RX5, "define", "(II)V"⟩
abbrev cX5_arityOf : ByteArray := prog_7_method_3_code
def yX5_arityOf : MethodName := ⟨RX5, "arityOf", "(I)I"⟩
def RX6 : String := "StructureFinder$Tables"
def TX6 : u_T := fun k => match k with
  | 0 => ("StructureFinder$Tables", "values", "[I", true)
  | 1 => ("StructureFinder$Tables", "order", "[I", true)
  | 2 => ("StructureFinder$Tables", "ranks", "[I", true)
  | 3 => ("StructureFinder$Tables", "greatestArguments", "[I", true)
  | 4 => ("StructureFinder$Tables", "n", "I", false)
  | _ => ("StructureFinder$Tables", "count", "I", false)
def tyX6 : Nat → FieldType := fun k => match k with
  | 0 => .array .int
  | 1 => .array .int
  | 2 => .array .int
  | 3 => .array .int
  | 4 => .int
  | _ => .int
abbrev wsX60 : List Cond := u_ws RX6 TX6 6
theorem nmX6 : ∀ a, a < 6 → ∀ b, b < 6 → a ≠ b → (TX6 a).2.1 ≠ (TX6 b).2.1 := by decide +kernel
theorem tyX6_ok : ∀ k, k < 6 → parseFieldDescriptor (TX6 k).2.2.1 = some (tyX6 k) := by decide +kernel
abbrev cX6_init : ByteArray := prog_8_method_1_code
def yX6_init : MethodName := ⟨RX6, "<init>", "()V"⟩
abbrev cX6_cellOf : ByteArray := prog_8_method_2_code
def yX6_cellOf : MethodName := ⟨RX6, "cellOf", "(III)I"⟩
abbrev cX6_lay : ByteArray := prog_8_method_3_code
def yX6_lay : MethodName := ⟨RX6, "lay", "(ILStructureFinder$Symbols;)V"⟩
abbrev cX6_count : ByteArray := prog_8_method_4_code
def yX6_count : MethodName := ⟨RX6, "count", "()I"⟩
abbrev cX6_sizeLaid : ByteArray := prog_8_method_5_code
def yX6_sizeLaid : MethodName := ⟨RX6, "sizeLaid", "()I"⟩
abbrev cX6_valueOf : ByteArray := prog_8_method_6_code
def yX6_valueOf : MethodName := ⟨RX6, "valueOf", "(I)I"⟩
abbrev cX6_rankOf : ByteArray := prog_8_method_7_code
def yX6_rankOf : MethodName := ⟨RX6, "rankOf", "(I)I"⟩
abbrev cX6_valueAt : ByteArray := prog_8_method_8_code
def yX6_valueAt : MethodName := ⟨RX6, "valueAt", "(I)I"⟩
abbrev cX6_putAt : ByteArray := prog_8_method_9_code
def yX6_putAt : MethodName := ⟨RX6, "putAt", "(II)V"⟩
abbrev cX6_isFunctionAt : ByteArray := prog_8_method_10_code
def yX6_isFunctionAt : MethodName := ⟨RX6, "isFunctionAt", "(I)Z"⟩
abbrev cX6_greatestArgumentAt : ByteArray := prog_8_method_11_code
def yX6_greatestArgumentAt : MethodName := ⟨RX6, "greatestArgumentAt", "(I)I"⟩
abbrev cX6_isRank : ByteArray := prog_8_method_12_code
def yX6_isRank : MethodName := ⟨RX6, "isRank", "(I)Z"⟩
abbrev cX6_layCells : ByteArray := prog_8_method_13_code
def yX6_layCells : MethodName := ⟨RX6, "layCells", "(III)V"⟩
abbrev cX6_layPairs : ByteArray := prog_8_method_14_code
def yX6_layPairs : MethodName := ⟨RX6, "layPairs", "(II)V"⟩
abbrev cX6_layCell : ByteArray := prog_8_method_15_code
def yX6_layCell : MethodName := ⟨RX6, "layCell", "(II)V"⟩
def RX7 : String := "StructureFinder"
def TX7 : u_T := fun k => match k with
  | 0 => ("StructureFinder", "symbols", "LStructureFinder$Symbols;", true)
  | 1 => ("StructureFinder", "buffer", "LStructureFinder$Buffer;", true)
  | 2 => ("StructureFinder", "held", "LStructureFinder$Clauses;", true)
  | 3 => ("StructureFinder", "question", "LStructureFinder$Clause;", true)
  | 4 => ("StructureFinder", "tables", "LStructureFinder$Tables;", true)
  | 5 => ("StructureFinder", "look", "LStructureFinder$Look;", true)
  | 6 => ("StructureFinder", "search", "LStructureFinder$Search;", true)
  | 7 => ("StructureFinder", "brokenCase", "[I", true)
  | 8 => ("StructureFinder", "foundSize", "I", false)
  | _ => ("StructureFinder", "clausesChanged", "Z", false)
def tyX7 : Nat → FieldType := fun k => match k with
  | 0 => .object "StructureFinder$Symbols"
  | 1 => .object "StructureFinder$Buffer"
  | 2 => .object "StructureFinder$Clauses"
  | 3 => .object "StructureFinder$Clause"
  | 4 => .object "StructureFinder$Tables"
  | 5 => .object "StructureFinder$Look"
  | 6 => .object "StructureFinder$Search"
  | 7 => .array .int
  | 8 => .int
  | _ => .boolean
abbrev wsX70 : List Cond := u_ws RX7 TX7 10
theorem nmX7 : ∀ a, a < 10 → ∀ b, b < 10 → a ≠ b → (TX7 a).2.1 ≠ (TX7 b).2.1 := by decide +kernel
theorem tyX7_ok : ∀ k, k < 10 → parseFieldDescriptor (TX7 k).2.2.1 = some (tyX7 k) := by decide +kernel
abbrev cX7_init : ByteArray := prog_1_method_1_code
def yX7_init : MethodName := ⟨RX7, "<init>", "()V"⟩
abbrev cX7_symbol : ByteArray := prog_1_method_2_code
def yX7_symbol : MethodName := ⟨RX7, "symbol", "(CI)Z"⟩
abbrev cX7_type : ByteArray := prog_1_method_3_code
def yX7_type : MethodName := ⟨RX7, "type", "(JI)I"⟩
abbrev cX7_clause : ByteArray := prog_1_method_4_code
def yX7_clause : MethodName := ⟨RX7, "clause", "()I"⟩
abbrev cX7_drop : ByteArray := prog_1_method_5_code
def yX7_drop : MethodName := ⟨RX7, "drop", "()I"⟩
abbrev cX7_find : ByteArray := prog_1_method_6_code
def yX7_find : MethodName := ⟨RX7, "find", "(I)I"⟩
abbrev cX7_more : ByteArray := prog_1_method_7_code
def yX7_more : MethodName := ⟨RX7, "more", "()I"⟩
abbrev cX7_size : ByteArray := prog_1_method_8_code
def yX7_size : MethodName := ⟨RX7, "size", "()I"⟩
abbrev cX7_value : ByteArray := prog_1_method_9_code
def yX7_value : MethodName := ⟨RX7, "value", "(CII)I"⟩
abbrev cX7_tries : ByteArray := prog_1_method_10_code
def yX7_tries : MethodName := ⟨RX7, "tries", "()I"⟩
abbrev cX7_check : ByteArray := prog_1_method_11_code
def yX7_check : MethodName := ⟨RX7, "check", "()I"⟩
abbrev cX7_caseOf : ByteArray := prog_1_method_12_code
def yX7_caseOf : MethodName := ⟨RX7, "caseOf", "(I)I"⟩
abbrev cX7_clauses : ByteArray := prog_1_method_13_code
def yX7_clauses : MethodName := ⟨RX7, "clauses", "()I"⟩
abbrev cX7_holdsInStructure : ByteArray := prog_1_method_14_code
def yX7_holdsInStructure : MethodName := ⟨RX7, "holdsInStructure", "()Z"⟩
abbrev cX7_isArgument : ByteArray := prog_1_method_15_code
def yX7_isArgument : MethodName := ⟨RX7, "isArgument", "(I)Z"⟩
abbrev cX7_areAllVisible : ByteArray := prog_1_method_16_code
def yX7_areAllVisible : MethodName := ⟨RX7, "areAllVisible", "(JI)Z"⟩
abbrev cX7_byteAt : ByteArray := prog_1_method_17_code
def yX7_byteAt : MethodName := ⟨RX7, "byteAt", "(JI)C"⟩
abbrev cX7_codeOf : ByteArray := prog_1_method_18_code
def yX7_codeOf : MethodName := ⟨RX7, "codeOf", "(C)I"⟩
abbrev cX7_isFunction : ByteArray := prog_1_method_19_code
def yX7_isFunction : MethodName := ⟨RX7, "isFunction", "(I)Z"⟩
abbrev cX7_isPredicate : ByteArray := prog_1_method_20_code
def yX7_isPredicate : MethodName := ⟨RX7, "isPredicate", "(I)Z"⟩
abbrev cX7_isVariable : ByteArray := prog_1_method_21_code
def yX7_isVariable : MethodName := ⟨RX7, "isVariable", "(I)Z"⟩
def RX8 : String := "StructureFinderModel"
def TX8 : u_T := fun k => match k with
  | 0 => ("StructureFinderModel", "arities", "[I", true)
  | 1 => ("StructureFinderModel", "buffer", "[I", true)
  | 2 => ("StructureFinderModel", "typed", "I", false)
  | 3 => ("StructureFinderModel", "texts", "[I", true)
  | 4 => ("StructureFinderModel", "lengths", "[I", true)
  | 5 => ("StructureFinderModel", "clauses", "I", false)
  | 6 => ("StructureFinderModel", "values", "[I", true)
  | 7 => ("StructureFinderModel", "n", "I", false)
  | 8 => ("StructureFinderModel", "count", "I", false)
  | 9 => ("StructureFinderModel", "symbols", "[I", true)
  | 10 => ("StructureFinderModel", "firsts", "[I", true)
  | 11 => ("StructureFinderModel", "seconds", "[I", true)
  | 12 => ("StructureFinderModel", "found", "Z", false)
  | 13 => ("StructureFinderModel", "fresh", "Z", false)
  | 14 => ("StructureFinderModel", "tries", "I", false)
  | 15 => ("StructureFinderModel", "numbers", "[I", true)
  | 16 => ("StructureFinderModel", "shown", "[I", true)
  | 17 => ("StructureFinderModel", "pile", "[I", true)
  | _ => ("StructureFinderModel", "top", "I", false)
def tyX8 : Nat → FieldType := fun k => match k with
  | 0 => .array .int
  | 1 => .array .int
  | 2 => .int
  | 3 => .array .int
  | 4 => .array .int
  | 5 => .int
  | 6 => .array .int
  | 7 => .int
  | 8 => .int
  | 9 => .array .int
  | 10 => .array .int
  | 11 => .array .int
  | 12 => .boolean
  | 13 => .boolean
  | 14 => .int
  | 15 => .array .int
  | 16 => .array .int
  | 17 => .array .int
  | _ => .int
abbrev wsX80 : List Cond := u_ws RX8 TX8 19
theorem nmX8 : ∀ a, a < 19 → ∀ b, b < 19 → a ≠ b → (TX8 a).2.1 ≠ (TX8 b).2.1 := by decide +kernel
theorem tyX8_ok : ∀ k, k < 19 → parseFieldDescriptor (TX8 k).2.2.1 = some (tyX8 k) := by decide +kernel
abbrev cX8_init : ByteArray := prog_10_method_1_code
def yX8_init : MethodName := ⟨RX8, "<init>", "()V"⟩
abbrev cX8_symbolOf : ByteArray := prog_10_method_2_code
def yX8_symbolOf : MethodName := ⟨RX8, "symbolOf", "(I)I"⟩
abbrev cX8_symbol : ByteArray := prog_10_method_3_code
def yX8_symbol : MethodName := ⟨RX8, "symbol", "(CI)Z"⟩
abbrev cX8_type : ByteArray := prog_10_method_4_code
def yX8_type : MethodName := ⟨RX8, "type", "(JI)I"⟩
abbrev cX8_termWants : ByteArray := prog_10_method_5_code
def yX8_termWants : MethodName := ⟨RX8, "termWants", "(I)I"⟩
abbrev cX8_atomWants : ByteArray := prog_10_method_6_code
def yX8_atomWants : MethodName := ⟨RX8, "atomWants", "(I)I"⟩
abbrev cX8_wrong : ByteArray := prog_10_method_7_code
def yX8_wrong : MethodName := ⟨RX8, "wrong", "()I"⟩
abbrev cX8_keep : ByteArray := prog_10_method_8_code
def yX8_keep : MethodName := ⟨RX8, "keep", "(I)V"⟩
abbrev cX8_clause : ByteArray := prog_10_method_9_code
def yX8_clause : MethodName := ⟨RX8, "clause", "()I"⟩
abbrev cX8_drop : ByteArray := prog_10_method_10_code
def yX8_drop : MethodName := ⟨RX8, "drop", "()I"⟩
abbrev cX8_has : ByteArray := prog_10_method_11_code
def yX8_has : MethodName := ⟨RX8, "has", "(II)Z"⟩
abbrev cX8_cell : ByteArray := prog_10_method_12_code
def yX8_cell : MethodName := ⟨RX8, "cell", "(I)I"⟩
abbrev cX8_step : ByteArray := prog_10_method_13_code
def yX8_step : MethodName := ⟨RX8, "step", "(I)V"⟩
abbrev cX8_isBroken : ByteArray := prog_10_method_14_code
def yX8_isBroken : MethodName := ⟨RX8, "isBroken", "(I)Z"⟩
abbrev cX8_breaks : ByteArray := prog_10_method_15_code
def yX8_breaks : MethodName := ⟨RX8, "breaks", "(I)Z"⟩
abbrev cX8_letterOf : ByteArray := prog_10_method_16_code
def yX8_letterOf : MethodName := ⟨RX8, "letterOf", "(I)I"⟩
abbrev cX8_someBreaks : ByteArray := prog_10_method_17_code
def yX8_someBreaks : MethodName := ⟨RX8, "someBreaks", "(I)Z"⟩
abbrev cX8_put : ByteArray := prog_10_method_18_code
def yX8_put : MethodName := ⟨RX8, "put", "(III)V"⟩
abbrev cX8_list : ByteArray := prog_10_method_19_code
def yX8_list : MethodName := ⟨RX8, "list", "(I)V"⟩
abbrev cX8_placeOf : ByteArray := prog_10_method_20_code
def yX8_placeOf : MethodName := ⟨RX8, "placeOf", "(I)I"⟩
abbrev cX8_limit : ByteArray := prog_10_method_21_code
def yX8_limit : MethodName := ⟨RX8, "limit", "(I)I"⟩
abbrev cX8_walk : ByteArray := prog_10_method_22_code
def yX8_walk : MethodName := ⟨RX8, "walk", "(I)I"⟩
abbrev cX8_find : ByteArray := prog_10_method_23_code
def yX8_find : MethodName := ⟨RX8, "find", "(I)I"⟩
abbrev cX8_more : ByteArray := prog_10_method_24_code
def yX8_more : MethodName := ⟨RX8, "more", "()I"⟩
abbrev cX8_size : ByteArray := prog_10_method_25_code
def yX8_size : MethodName := ⟨RX8, "size", "()I"⟩
abbrev cX8_value : ByteArray := prog_10_method_26_code
def yX8_value : MethodName := ⟨RX8, "value", "(CII)I"⟩
abbrev cX8_tries : ByteArray := prog_10_method_27_code
def yX8_tries : MethodName := ⟨RX8, "tries", "()I"⟩
abbrev cX8_check : ByteArray := prog_10_method_28_code
def yX8_check : MethodName := ⟨RX8, "check", "()I"⟩
abbrev cX8_caseOf : ByteArray := prog_10_method_29_code
def yX8_caseOf : MethodName := ⟨RX8, "caseOf", "(I)I"⟩
abbrev cX8_clauses : ByteArray := prog_10_method_30_code
def yX8_clauses : MethodName := ⟨RX8, "clauses", "()I"⟩
def RJ9 : String := "java/lang/Math"
def TJ9 : u_T := fun k => match k with
  | _ => ("", "", "", false)
def tyJ9 : Nat → FieldType := fun k => match k with
  | _ => .int
abbrev wsJ90 : List Cond := u_ws RJ9 TJ9 0
theorem nmJ9 : ∀ a, a < 0 → ∀ b, b < 0 → a ≠ b → (TJ9 a).2.1 ≠ (TJ9 b).2.1 := by decide +kernel
theorem tyJ9_ok : ∀ k, k < 0 → parseFieldDescriptor (TJ9 k).2.2.1 = some (tyJ9 k) := by decide +kernel
abbrev cJ9_max_7cf53 : ByteArray := prog_11_method_65_code
def yJ9_max_7cf53 : MethodName := ⟨RJ9, "max", "(II)I"⟩
abbrev cJ9_min_7cf53 : ByteArray := prog_11_method_69_code
def yJ9_min_7cf53 : MethodName := ⟨RJ9, "min", "(II)I"⟩
def RJ7 : String := "java/util/Arrays"
def TJ7 : u_T := fun k => match k with
  | _ => ("", "", "", false)
def tyJ7 : Nat → FieldType := fun k => match k with
  | _ => .int
abbrev wsJ70 : List Cond := u_ws RJ7 TJ7 0
theorem nmJ7 : ∀ a, a < 0 → ∀ b, b < 0 → a ≠ b → (TJ7 a).2.1 ≠ (TJ7 b).2.1 := by decide +kernel
theorem tyJ7_ok : ∀ k, k < 0 → parseFieldDescriptor (TJ7 k).2.2.1 = some (tyJ7 k) := by decide +kernel
abbrev cJ7_fill_53178 : ByteArray := prog_12_method_103_code
def yJ7_fill_53178 : MethodName := ⟨RJ7, "fill", "([II)V"⟩
def RL : String := "StructureFinderLaw"
abbrev cL_law : ByteArray := code
def yL_law : MethodName := ⟨RL, "law", "([I)Z"⟩
